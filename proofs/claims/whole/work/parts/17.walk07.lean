theorem dX10_name_0 : decode cX10_name 0 = .ok (.aload_n 0, 1) := by decide +kernel
theorem dX10_name_1 : decode cX10_name 1 = .ok (.getfield 118, 3) := by decide +kernel
theorem dX10_name_4 : decode cX10_name 4 = .ok (.i2l, 1) := by decide +kernel
theorem dX10_name_5 : decode cX10_name 5 = .ok (.lconst 1, 1) := by decide +kernel
theorem dX10_name_6 : decode cX10_name 6 = .ok (.ldc2_w 126, 3) := by decide +kernel
theorem dX10_name_9 : decode cX10_name 9 = .ok (.invokestatic 108, 3) := by decide +kernel
theorem dX10_name_12 : decode cX10_name 12 = .ok (.istore_n 1, 1) := by decide +kernel
theorem dX10_name_13 : decode cX10_name 13 = .ok (.iconst 0, 1) := by decide +kernel
theorem dX10_name_14 : decode cX10_name 14 = .ok (.istore_n 2, 1) := by decide +kernel
theorem dX10_name_15 : decode cX10_name 15 = .ok (.iload_n 2, 1) := by decide +kernel
theorem dX10_name_16 : decode cX10_name 16 = .ok (.aload_n 0, 1) := by decide +kernel
theorem dX10_name_17 : decode cX10_name 17 = .ok (.getfield 118, 3) := by decide +kernel
theorem dX10_name_20 : decode cX10_name 20 = .ok (.if_icmp .ge 30, 3) := by decide +kernel
theorem dX10_name_23 : decode cX10_name 23 = .ok (.iload_n 1, 1) := by decide +kernel
theorem dX10_name_24 : decode cX10_name 24 = .ok (.ifCond .eq 26, 3) := by decide +kernel
theorem dX10_name_27 : decode cX10_name 27 = .ok (.aload_n 0, 1) := by decide +kernel
theorem dX10_name_28 : decode cX10_name 28 = .ok (.getfield 34, 3) := by decide +kernel
theorem dX10_name_31 : decode cX10_name 31 = .ok (.iload_n 2, 1) := by decide +kernel
theorem dX10_name_32 : decode cX10_name 32 = .ok (.iaload, 1) := by decide +kernel
theorem dX10_name_33 : decode cX10_name 33 = .ok (.i2l, 1) := by decide +kernel
theorem dX10_name_34 : decode cX10_name 34 = .ok (.ldc2_w 128, 3) := by decide +kernel
theorem dX10_name_37 : decode cX10_name 37 = .ok (.ldc2_w 130, 3) := by decide +kernel
theorem dX10_name_40 : decode cX10_name 40 = .ok (.invokestatic 108, 3) := by decide +kernel
theorem dX10_name_43 : decode cX10_name 43 = .ok (.istore_n 1, 1) := by decide +kernel
theorem dX10_name_44 : decode cX10_name 44 = .ok (.iinc 2 1, 3) := by decide +kernel
theorem dX10_name_47 : decode cX10_name 47 = .ok (.goto (-32), 3) := by decide +kernel
theorem dX10_name_50 : decode cX10_name 50 = .ok (.iload_n 1, 1) := by decide +kernel
theorem dX10_name_51 : decode cX10_name 51 = .ok (.ifCond .eq 15, 3) := by decide +kernel
theorem dX10_name_54 : decode cX10_name 54 = .ok (.aload_n 0, 1) := by decide +kernel
theorem dX10_name_55 : decode cX10_name 55 = .ok (.iconst 0, 1) := by decide +kernel
theorem dX10_name_56 : decode cX10_name 56 = .ok (.aload_n 0, 1) := by decide +kernel
theorem dX10_name_57 : decode cX10_name 57 = .ok (.getfield 118, 3) := by decide +kernel
theorem dX10_name_60 : decode cX10_name 60 = .ok (.invokevirtual 132, 3) := by decide +kernel
theorem dX10_name_63 : decode cX10_name 63 = .ok (.ifCond .lt 22, 3) := by decide +kernel
theorem dX10_name_66 : decode cX10_name 66 = .ok (.aload_n 0, 1) := by decide +kernel
theorem dX10_name_67 : decode cX10_name 67 = .ok (.iconst 0, 1) := by decide +kernel
theorem dX10_name_68 : decode cX10_name 68 = .ok (.putfield 118, 3) := by decide +kernel
theorem dX10_name_71 : decode cX10_name 71 = .ok (.iload_n 1, 1) := by decide +kernel
theorem dX10_name_72 : decode cX10_name 72 = .ok (.ifCond .eq 9, 3) := by decide +kernel
theorem dX10_name_75 : decode cX10_name 75 = .ok (.sipush (-1003), 3) := by decide +kernel
theorem dX10_name_78 : decode cX10_name 78 = .ok (.goto 6, 3) := by decide +kernel
theorem dX10_name_81 : decode cX10_name 81 = .ok (.sipush (-1002), 3) := by decide +kernel
theorem dX10_name_84 : decode cX10_name 84 = .ok (.ireturn, 1) := by decide +kernel
theorem dX10_name_85 : decode cX10_name 85 = .ok (.aload_n 0, 1) := by decide +kernel
theorem dX10_name_86 : decode cX10_name 86 = .ok (.getfield 123, 3) := by decide +kernel
theorem dX10_name_89 : decode cX10_name 89 = .ok (.bipush 10, 2) := by decide +kernel
theorem dX10_name_91 : decode cX10_name 91 = .ok (.if_icmp .ne 7, 3) := by decide +kernel
theorem dX10_name_94 : decode cX10_name 94 = .ok (.sipush (-1004), 3) := by decide +kernel
theorem dX10_name_97 : decode cX10_name 97 = .ok (.ireturn, 1) := by decide +kernel
theorem dX10_name_98 : decode cX10_name 98 = .ok (.iconst 0, 1) := by decide +kernel
theorem dX10_name_99 : decode cX10_name 99 = .ok (.istore_n 2, 1) := by decide +kernel
theorem dX10_name_100 : decode cX10_name 100 = .ok (.iload_n 2, 1) := by decide +kernel
theorem dX10_name_101 : decode cX10_name 101 = .ok (.aload_n 0, 1) := by decide +kernel
theorem dX10_name_102 : decode cX10_name 102 = .ok (.getfield 118, 3) := by decide +kernel
theorem dX10_name_105 : decode cX10_name 105 = .ok (.if_icmp .ge 32, 3) := by decide +kernel
theorem dX10_name_108 : decode cX10_name 108 = .ok (.aload_n 0, 1) := by decide +kernel
theorem dX10_name_109 : decode cX10_name 109 = .ok (.getfield 13, 3) := by decide +kernel
theorem dX10_name_112 : decode cX10_name 112 = .ok (.bipush 12, 2) := by decide +kernel
theorem dX10_name_114 : decode cX10_name 114 = .ok (.aload_n 0, 1) := by decide +kernel
theorem dX10_name_115 : decode cX10_name 115 = .ok (.getfield 123, 3) := by decide +kernel
theorem dX10_name_118 : decode cX10_name 118 = .ok (.imul, 1) := by decide +kernel
theorem dX10_name_119 : decode cX10_name 119 = .ok (.iload_n 2, 1) := by decide +kernel
theorem dX10_name_120 : decode cX10_name 120 = .ok (.iadd, 1) := by decide +kernel
theorem dX10_name_121 : decode cX10_name 121 = .ok (.aload_n 0, 1) := by decide +kernel
theorem dX10_name_122 : decode cX10_name 122 = .ok (.getfield 34, 3) := by decide +kernel
theorem dX10_name_125 : decode cX10_name 125 = .ok (.iload_n 2, 1) := by decide +kernel
theorem dX10_name_126 : decode cX10_name 126 = .ok (.iaload, 1) := by decide +kernel
theorem dX10_name_127 : decode cX10_name 127 = .ok (.bipush 97, 2) := by decide +kernel
theorem dX10_name_129 : decode cX10_name 129 = .ok (.isub, 1) := by decide +kernel
theorem dX10_name_130 : decode cX10_name 130 = .ok (.iastore, 1) := by decide +kernel
theorem dX10_name_131 : decode cX10_name 131 = .ok (.iinc 2 1, 3) := by decide +kernel
theorem dX10_name_134 : decode cX10_name 134 = .ok (.goto (-34), 3) := by decide +kernel
theorem dX10_name_137 : decode cX10_name 137 = .ok (.aload_n 0, 1) := by decide +kernel
theorem dX10_name_138 : decode cX10_name 138 = .ok (.getfield 16, 3) := by decide +kernel
theorem dX10_name_141 : decode cX10_name 141 = .ok (.aload_n 0, 1) := by decide +kernel
theorem dX10_name_142 : decode cX10_name 142 = .ok (.getfield 123, 3) := by decide +kernel
theorem dX10_name_145 : decode cX10_name 145 = .ok (.aload_n 0, 1) := by decide +kernel
theorem dX10_name_146 : decode cX10_name 146 = .ok (.getfield 118, 3) := by decide +kernel
theorem dX10_name_149 : decode cX10_name 149 = .ok (.iastore, 1) := by decide +kernel
theorem dX10_name_150 : decode cX10_name 150 = .ok (.aload_n 0, 1) := by decide +kernel
theorem dX10_name_151 : decode cX10_name 151 = .ok (.getfield 19, 3) := by decide +kernel
theorem dX10_name_154 : decode cX10_name 154 = .ok (.aload_n 0, 1) := by decide +kernel
theorem dX10_name_155 : decode cX10_name 155 = .ok (.getfield 123, 3) := by decide +kernel
theorem dX10_name_158 : decode cX10_name 158 = .ok (.bipush 15, 2) := by decide +kernel
theorem dX10_name_160 : decode cX10_name 160 = .ok (.iastore, 1) := by decide +kernel
theorem dX10_name_161 : decode cX10_name 161 = .ok (.aload_n 0, 1) := by decide +kernel
theorem dX10_name_162 : decode cX10_name 162 = .ok (.getfield 22, 3) := by decide +kernel
theorem dX10_name_165 : decode cX10_name 165 = .ok (.aload_n 0, 1) := by decide +kernel
theorem dX10_name_166 : decode cX10_name 166 = .ok (.getfield 123, 3) := by decide +kernel
theorem dX10_name_169 : decode cX10_name 169 = .ok (.iconst 0, 1) := by decide +kernel
theorem dX10_name_170 : decode cX10_name 170 = .ok (.iastore, 1) := by decide +kernel
theorem dX10_name_171 : decode cX10_name 171 = .ok (.aload_n 0, 1) := by decide +kernel
theorem dX10_name_172 : decode cX10_name 172 = .ok (.getfield 25, 3) := by decide +kernel
theorem dX10_name_175 : decode cX10_name 175 = .ok (.aload_n 0, 1) := by decide +kernel
theorem dX10_name_176 : decode cX10_name 176 = .ok (.getfield 123, 3) := by decide +kernel
theorem dX10_name_179 : decode cX10_name 179 = .ok (.bipush 99, 2) := by decide +kernel
theorem dX10_name_181 : decode cX10_name 181 = .ok (.iastore, 1) := by decide +kernel
theorem dX10_name_182 : decode cX10_name 182 = .ok (.aload_n 0, 1) := by decide +kernel
theorem dX10_name_183 : decode cX10_name 183 = .ok (.getfield 28, 3) := by decide +kernel
theorem dX10_name_186 : decode cX10_name 186 = .ok (.aload_n 0, 1) := by decide +kernel
theorem dX10_name_187 : decode cX10_name 187 = .ok (.getfield 123, 3) := by decide +kernel
theorem dX10_name_190 : decode cX10_name 190 = .ok (.iconst 1, 1) := by decide +kernel
theorem dX10_name_191 : decode cX10_name 191 = .ok (.iastore, 1) := by decide +kernel
theorem dX10_name_192 : decode cX10_name 192 = .ok (.aload_n 0, 1) := by decide +kernel
theorem dX10_name_193 : decode cX10_name 193 = .ok (.getfield 31, 3) := by decide +kernel
theorem dX10_name_196 : decode cX10_name 196 = .ok (.aload_n 0, 1) := by decide +kernel
theorem dX10_name_197 : decode cX10_name 197 = .ok (.getfield 123, 3) := by decide +kernel
theorem dX10_name_200 : decode cX10_name 200 = .ok (.iconst 0, 1) := by decide +kernel
theorem dX10_name_201 : decode cX10_name 201 = .ok (.iastore, 1) := by decide +kernel
theorem dX10_name_202 : decode cX10_name 202 = .ok (.aload_n 0, 1) := by decide +kernel
theorem dX10_name_203 : decode cX10_name 203 = .ok (.iconst 0, 1) := by decide +kernel
theorem dX10_name_204 : decode cX10_name 204 = .ok (.putfield 118, 3) := by decide +kernel
theorem dX10_name_207 : decode cX10_name 207 = .ok (.aload_n 0, 1) := by decide +kernel
theorem dX10_name_208 : decode cX10_name 208 = .ok (.dup, 1) := by decide +kernel
theorem dX10_name_209 : decode cX10_name 209 = .ok (.getfield 123, 3) := by decide +kernel
theorem dX10_name_212 : decode cX10_name 212 = .ok (.iconst 1, 1) := by decide +kernel
theorem dX10_name_213 : decode cX10_name 213 = .ok (.iadd, 1) := by decide +kernel
theorem dX10_name_214 : decode cX10_name 214 = .ok (.putfield 123, 3) := by decide +kernel
theorem dX10_name_217 : decode cX10_name 217 = .ok (.aload_n 0, 1) := by decide +kernel
theorem dX10_name_218 : decode cX10_name 218 = .ok (.getfield 123, 3) := by decide +kernel
theorem dX10_name_221 : decode cX10_name 221 = .ok (.iconst 1, 1) := by decide +kernel
theorem dX10_name_222 : decode cX10_name 222 = .ok (.isub, 1) := by decide +kernel
theorem dX10_name_223 : decode cX10_name 223 = .ok (.ireturn, 1) := by decide +kernel
def BX10_name_15 (I15 : Int32 → Int32 → XT → YT → Prop) (I50 : Int32 → XT → YT → Prop) (I100 : Int32 → XT → YT → Prop) (Q : Int32 → XT → YT → Prop) (a1 : Int32) (a2 : Int32) (X : XT) (Y : YT) : Prop :=
  (((X 48 12) ≤ a2 → I50 a1 X Y) ∧ (¬ (X 48 12) ≤ a2 → ((a1 = 0 → I50 a1 X Y) ∧ (¬ a1 = 0 → vp_in a2 120 ∧ PX10_in ((X 57 a2.toNatClampNeg).toInt64) (97 : Int64) (122 : Int64) X Y (fun r3 X4 Y5 => ∀ w7 : Int32, w7 = a2 + 1 → I15 r3 w7 X4 Y5)))))
def BX10_name_50 (I15 : Int32 → Int32 → XT → YT → Prop) (I50 : Int32 → XT → YT → Prop) (I100 : Int32 → XT → YT → Prop) (Q : Int32 → XT → YT → Prop) (a1 : Int32) (X : XT) (Y : YT) : Prop :=
  ((a1 = 0 → ((a1 = 0 → Q (-1002) (sX X 48 12 0) Y) ∧ (¬ a1 = 0 → Q (-1003) (sX X 48 12 0) Y))) ∧ (¬ a1 = 0 → PX10_nameAt 0 (X 48 12) X Y (fun r3 X4 Y5 => ((r3 < 0 → ((¬ (X4 48 1) = 10 → I100 0 X4 Y5) ∧ ((X4 48 1) = 10 → Q (-1004) X4 Y5))) ∧ (¬ r3 < 0 → ((a1 = 0 → Q (-1002) (sX X4 48 12 0) Y5) ∧ (¬ a1 = 0 → Q (-1003) (sX X4 48 12 0) Y5)))))))
def BX10_name_100 (I15 : Int32 → Int32 → XT → YT → Prop) (I50 : Int32 → XT → YT → Prop) (I100 : Int32 → XT → YT → Prop) (Q : Int32 → XT → YT → Prop) (a2 : Int32) (X : XT) (Y : YT) : Prop :=
  (((X 48 12) ≤ a2 → vp_in (X 48 1) 10 ∧ vp_in ((sX X 51 (X 48 1).toNatClampNeg (X 48 12)) 48 1) 10 ∧ ∀ X2 : XT, X2 = sX (sX X 51 (X 48 1).toNatClampNeg (X 48 12)) 52 ((sX X 51 (X 48 1).toNatClampNeg (X 48 12)) 48 1).toNatClampNeg 15 → vp_in (X2 48 1) 10 ∧ vp_in ((sX X2 53 (X2 48 1).toNatClampNeg 0) 48 1) 10 ∧ ∀ X4 : XT, X4 = sX (sX X2 53 (X2 48 1).toNatClampNeg 0) 54 ((sX X2 53 (X2 48 1).toNatClampNeg 0) 48 1).toNatClampNeg 99 → vp_in (X4 48 1) 10 ∧ vp_in ((sX X4 55 (X4 48 1).toNatClampNeg 1) 48 1) 10 ∧ ∀ X6 : XT, X6 = sX (sX X4 55 (X4 48 1).toNatClampNeg 1) 56 ((sX X4 55 (X4 48 1).toNatClampNeg 1) 48 1).toNatClampNeg 0 → ∀ X8 : XT, X8 = sX (sX X6 48 12 0) 48 1 (((sX X6 48 12 0) 48 1) + 1) → Q ((X8 48 1) - 1) X8 Y) ∧ (¬ (X 48 12) ≤ a2 → vp_in a2 120 ∧ vp_in ((12 * (X 48 1)) + a2) 120 ∧ ∀ X10 : XT, X10 = sX X 50 ((12 * (X 48 1)) + a2).toNatClampNeg ((X 57 a2.toNatClampNeg) - 97) → ∀ w12 : Int32, w12 = a2 + 1 → I100 w12 X10 Y))
def BX10_name_s (I15 : Int32 → Int32 → XT → YT → Prop) (I50 : Int32 → XT → YT → Prop) (I100 : Int32 → XT → YT → Prop) (Q : Int32 → XT → YT → Prop) (X : XT) (Y : YT) : Prop :=
  PX10_in ((X 48 12).toInt64) (1 : Int64) (12 : Int64) X Y (fun r1 X2 Y3 => I15 r1 0 X2 Y3)
def PX10_name (X : XT) (Y : YT) (Q : Int32 → XT → YT → Prop) : Prop := ∀ (I15 : Int32 → Int32 → XT → YT → Prop) (I50 : Int32 → XT → YT → Prop) (I100 : Int32 → XT → YT → Prop), (∀ (a1 : Int32) (a2 : Int32) (X : XT) (Y : YT), BX10_name_15 I15 I50 I100 Q a1 a2 X Y → I15 a1 a2 X Y) → (∀ (a1 : Int32) (X : XT) (Y : YT), BX10_name_50 I15 I50 I100 Q a1 X Y → I50 a1 X Y) → (∀ (a2 : Int32) (X : XT) (Y : YT), BX10_name_100 I15 I50 I100 Q a2 X Y → I100 a2 X Y) → BX10_name_s I15 I50 I100 Q X Y
set_option maxHeartbeats 4000000 in
set_option maxRecDepth 100000 in
theorem kX10_name_15 {Γ : Cxt} {Q : Int32 → XT → YT → Prop} (O : Ok Γ RX10 cX10_name 3 { frames := 1, cells := 0, slots := 0, locals := 25 }) (r : Ret Γ (some .int) (qI Q)) {I15 : Int32 → Int32 → XT → YT → Prop} {I50 : Int32 → XT → YT → Prop} {I100 : Int32 → XT → YT → Prop} (e15 : ∀ (a1 : Int32) (a2 : Int32) (X : XT) (Y : YT), I15 a1 a2 X Y → V Γ 15 [(0, .ref 48), (1, .int a1), (2, .int a2)] [] X Y) (e50 : ∀ (a1 : Int32) (X : XT) (Y : YT), I50 a1 X Y → V Γ 50 [(0, .ref 48), (1, .int a1)] [] X Y) (e100 : ∀ (a2 : Int32) (X : XT) (Y : YT), I100 a2 X Y → V Γ 100 [(0, .ref 48), (2, .int a2)] [] X Y) {a1 : Int32} {a2 : Int32} {X : XT} {Y : YT} (h : BX10_name_15 I15 I50 I100 Q a1 a2 X Y) : V Γ 15 [(0, .ref 48), (1, .int a1), (2, .int a2)] [] X Y := by
  refine v_iload_n O dX10_name_15 rfl 2 rfl ?_
  refine v_aload_n O dX10_name_16 rfl 0 rfl ?_
  refine v_get O dX10_name_17 fo_X10_118 sh_48 rfl rfl ?_
  refine v_icmp_ge (tgt := 50) O dX10_name_20 (by decide) (fun g1 => ?_) (fun g1 => ?_)
  · exact v_loc [0, 1] rfl (e50 a1 X Y (h.1 g1))
  · refine v_iload_n O dX10_name_23 rfl 1 rfl ?_
    refine v_if_eq (tgt := 50) O dX10_name_24 (by decide) (fun g2 => ?_) (fun g2 => ?_)
    · exact v_loc [0, 1] rfl (e50 a1 X Y ((h.2 g1).1 g2))
    · refine v_aload_n O dX10_name_27 rfl 0 rfl ?_
      refine v_get O dX10_name_28 fo_X10_34 sh_48 rfl rfl ?_
      refine v_iload_n O dX10_name_31 rfl 2 rfl ?_
      refine v_iald O dX10_name_32 sh_57 ((h.2 g1).2 g2).1 ?_
      refine v_i2l O dX10_name_33 ?_
      refine v_ldc2 O dX10_name_34 kl_X10_128 ?_
      refine v_ldc2 O dX10_name_37 kl_X10_130 ?_
      refine v_callS (rm' := { frames := 0, cells := 0, slots := 0, locals := 0 }) (As := [.long ((X 57 a2.toNatClampNeg).toInt64), .long (97 : Int64), .long (122 : Int64)]) (st := []) O dX10_name_40 ci_X10_in ml_X10_108 ms_X10_in ⟨rfl, rfl, (by decide), (by decide)⟩ rfl (Nat.le_of_ble_eq_true rfl) rfl (mX10_in ((h.2 g1).2 g2).2) (k_I (fun r3 X4 Y5 h6 => ?_))
      refine v_istore_n (lv' := [(1, .int r3), (0, .ref 48), (2, .int a2)]) O dX10_name_43 rfl (by decide) rfl ?_
      obtain ⟨w7, hw8⟩ : ∃ y : Int32, y = a2 + 1 := ⟨_, rfl⟩
      refine v_iinc (v := w7) (j := 2) O dX10_name_44 rfl (by rw [hw8]; exact congrArg _ kc_1) (by decide) (lv' := [(2, .int w7), (1, .int r3), (0, .ref 48)]) rfl ?_
      refine v_goto O dX10_name_47 (tgt := 15) (by decide) ?_
      exact v_loc [2, 1, 0] rfl (e15 r3 w7 X4 Y5 (h6 w7 hw8))
set_option maxHeartbeats 4000000 in
set_option maxRecDepth 100000 in
theorem kX10_name_50 {Γ : Cxt} {Q : Int32 → XT → YT → Prop} (O : Ok Γ RX10 cX10_name 3 { frames := 1, cells := 0, slots := 0, locals := 25 }) (r : Ret Γ (some .int) (qI Q)) {I15 : Int32 → Int32 → XT → YT → Prop} {I50 : Int32 → XT → YT → Prop} {I100 : Int32 → XT → YT → Prop} (e15 : ∀ (a1 : Int32) (a2 : Int32) (X : XT) (Y : YT), I15 a1 a2 X Y → V Γ 15 [(0, .ref 48), (1, .int a1), (2, .int a2)] [] X Y) (e50 : ∀ (a1 : Int32) (X : XT) (Y : YT), I50 a1 X Y → V Γ 50 [(0, .ref 48), (1, .int a1)] [] X Y) (e100 : ∀ (a2 : Int32) (X : XT) (Y : YT), I100 a2 X Y → V Γ 100 [(0, .ref 48), (2, .int a2)] [] X Y) {a1 : Int32} {X : XT} {Y : YT} (h : BX10_name_50 I15 I50 I100 Q a1 X Y) : V Γ 50 [(0, .ref 48), (1, .int a1)] [] X Y := by
  refine v_iload_n O dX10_name_50 rfl 1 rfl ?_
  refine v_if_eq (tgt := 66) O dX10_name_51 (by decide) (fun g1 => ?_) (fun g1 => ?_)
  · refine v_aload_n O dX10_name_66 rfl 0 rfl ?_
    refine v_iconst O dX10_name_67 kc_0 ?_
    refine v_putI O dX10_name_68 fo_X10_118 fp_10_12 sh_48 rfl rfl rfl ?_
    refine v_iload_n O dX10_name_71 rfl 1 rfl ?_
    refine v_if_eq (tgt := 81) O dX10_name_72 (by decide) (fun g2 => ?_) (fun g2 => ?_)
    · refine v_sipush O dX10_name_81 ks_m1002 ?_
      exact v_iret O r dX10_name_84 ⟨_, rfl, ((h.1 g1).1 g2)⟩
    · refine v_sipush O dX10_name_75 ks_m1003 ?_
      refine v_goto O dX10_name_78 (tgt := 84) (by decide) ?_
      exact v_iret O r dX10_name_84 ⟨_, rfl, ((h.1 g1).2 g2)⟩
  · refine v_aload_n O dX10_name_54 rfl 0 rfl ?_
    refine v_iconst O dX10_name_55 kc_0 ?_
    refine v_aload_n O dX10_name_56 rfl 0 rfl ?_
    refine v_get O dX10_name_57 fo_X10_118 sh_48 rfl rfl ?_
    refine v_callV (rm' := { frames := 0, cells := 0, slots := 0, locals := 0 }) (As := [.int 0, .int (X 48 12)]) (st := []) O dX10_name_60 ci_X10_nameAt ml_X10_132 mi_X10_nameAt sh_48 rfl ⟨rfl, rfl, (by decide), (by decide)⟩ rfl (Nat.le_of_ble_eq_true rfl) rfl (mX10_nameAt (h.2 g1)) (k_I (fun r3 X4 Y5 h6 => ?_))
    refine v_if_lt (tgt := 85) O dX10_name_63 (by decide) (fun g7 => ?_) (fun g7 => ?_)
    · refine v_aload_n O dX10_name_85 rfl 0 rfl ?_
      refine v_get O dX10_name_86 fo_X10_123 sh_48 rfl rfl ?_
      refine v_bipush O dX10_name_89 kb_10 ?_
      refine v_icmp_ne (tgt := 98) O dX10_name_91 (by decide) (fun g8 => ?_) (fun g8 => ?_)
      · refine v_iconst O dX10_name_98 kc_0 ?_
        refine v_istore_n (lv' := [(2, .int 0), (0, .ref 48), (1, .int a1)]) O dX10_name_99 rfl (by decide) rfl ?_
        exact v_loc [1, 0] rfl (e100 0 X4 Y5 ((h6.1 g7).1 g8))
      · refine v_sipush O dX10_name_94 ks_m1004 ?_
        exact v_iret O r dX10_name_97 ⟨_, rfl, ((h6.1 g7).2 g8)⟩
    · refine v_aload_n O dX10_name_66 rfl 0 rfl ?_
      refine v_iconst O dX10_name_67 kc_0 ?_
      refine v_putI O dX10_name_68 fo_X10_118 fp_10_12 sh_48 rfl rfl rfl ?_
      refine v_iload_n O dX10_name_71 rfl 1 rfl ?_
      refine v_if_eq (tgt := 81) O dX10_name_72 (by decide) (fun g9 => ?_) (fun g9 => ?_)
      · refine v_sipush O dX10_name_81 ks_m1002 ?_
        exact v_iret O r dX10_name_84 ⟨_, rfl, ((h6.2 g7).1 g9)⟩
      · refine v_sipush O dX10_name_75 ks_m1003 ?_
        refine v_goto O dX10_name_78 (tgt := 84) (by decide) ?_
        exact v_iret O r dX10_name_84 ⟨_, rfl, ((h6.2 g7).2 g9)⟩
set_option maxHeartbeats 4000000 in
set_option maxRecDepth 100000 in
theorem kX10_name_100 {Γ : Cxt} {Q : Int32 → XT → YT → Prop} (O : Ok Γ RX10 cX10_name 3 { frames := 1, cells := 0, slots := 0, locals := 25 }) (r : Ret Γ (some .int) (qI Q)) {I15 : Int32 → Int32 → XT → YT → Prop} {I50 : Int32 → XT → YT → Prop} {I100 : Int32 → XT → YT → Prop} (e15 : ∀ (a1 : Int32) (a2 : Int32) (X : XT) (Y : YT), I15 a1 a2 X Y → V Γ 15 [(0, .ref 48), (1, .int a1), (2, .int a2)] [] X Y) (e50 : ∀ (a1 : Int32) (X : XT) (Y : YT), I50 a1 X Y → V Γ 50 [(0, .ref 48), (1, .int a1)] [] X Y) (e100 : ∀ (a2 : Int32) (X : XT) (Y : YT), I100 a2 X Y → V Γ 100 [(0, .ref 48), (2, .int a2)] [] X Y) {a2 : Int32} {X : XT} {Y : YT} (h : BX10_name_100 I15 I50 I100 Q a2 X Y) : V Γ 100 [(0, .ref 48), (2, .int a2)] [] X Y := by
  refine v_iload_n O dX10_name_100 rfl 1 rfl ?_
  refine v_aload_n O dX10_name_101 rfl 0 rfl ?_
  refine v_get O dX10_name_102 fo_X10_118 sh_48 rfl rfl ?_
  refine v_icmp_ge (tgt := 137) O dX10_name_105 (by decide) (fun g1 => ?_) (fun g1 => ?_)
  · refine v_aload_n O dX10_name_137 rfl 0 rfl ?_
    refine v_get O dX10_name_138 fo_X10_16 sh_48 rfl rfl ?_
    refine v_aload_n O dX10_name_141 rfl 0 rfl ?_
    refine v_get O dX10_name_142 fo_X10_123 sh_48 rfl rfl ?_
    refine v_aload_n O dX10_name_145 rfl 0 rfl ?_
    refine v_get O dX10_name_146 fo_X10_118 sh_48 rfl rfl ?_
    refine v_iast O dX10_name_149 sh_51 (h.1 g1).1 ?_
    refine v_aload_n O dX10_name_150 rfl 0 rfl ?_
    refine v_get O dX10_name_151 fo_X10_19 sh_48 rfl rfl ?_
    refine v_aload_n O dX10_name_154 rfl 0 rfl ?_
    refine v_get O dX10_name_155 fo_X10_123 sh_48 rfl rfl ?_
    refine v_bipush O dX10_name_158 kb_15 ?_
    refine v_iast O dX10_name_160 sh_52 (h.1 g1).2.1 ?_
    refine v_nmX (fun X2 hX3 => ?_)
    refine v_aload_n O dX10_name_161 rfl 0 rfl ?_
    refine v_get O dX10_name_162 fo_X10_22 sh_48 rfl rfl ?_
    refine v_aload_n O dX10_name_165 rfl 0 rfl ?_
    refine v_get O dX10_name_166 fo_X10_123 sh_48 rfl rfl ?_
    refine v_iconst O dX10_name_169 kc_0 ?_
    refine v_iast O dX10_name_170 sh_53 ((h.1 g1).2.2 X2 hX3).1 ?_
    refine v_aload_n O dX10_name_171 rfl 0 rfl ?_
    refine v_get O dX10_name_172 fo_X10_25 sh_48 rfl rfl ?_
    refine v_aload_n O dX10_name_175 rfl 0 rfl ?_
    refine v_get O dX10_name_176 fo_X10_123 sh_48 rfl rfl ?_
    refine v_bipush O dX10_name_179 kb_99 ?_
    refine v_iast O dX10_name_181 sh_54 ((h.1 g1).2.2 X2 hX3).2.1 ?_
    refine v_nmX (fun X4 hX5 => ?_)
    refine v_aload_n O dX10_name_182 rfl 0 rfl ?_
    refine v_get O dX10_name_183 fo_X10_28 sh_48 rfl rfl ?_
    refine v_aload_n O dX10_name_186 rfl 0 rfl ?_
    refine v_get O dX10_name_187 fo_X10_123 sh_48 rfl rfl ?_
    refine v_iconst O dX10_name_190 kc_1 ?_
    refine v_iast O dX10_name_191 sh_55 (((h.1 g1).2.2 X2 hX3).2.2 X4 hX5).1 ?_
    refine v_aload_n O dX10_name_192 rfl 0 rfl ?_
    refine v_get O dX10_name_193 fo_X10_31 sh_48 rfl rfl ?_
    refine v_aload_n O dX10_name_196 rfl 0 rfl ?_
    refine v_get O dX10_name_197 fo_X10_123 sh_48 rfl rfl ?_
    refine v_iconst O dX10_name_200 kc_0 ?_
    refine v_iast O dX10_name_201 sh_56 (((h.1 g1).2.2 X2 hX3).2.2 X4 hX5).2.1 ?_
    refine v_nmX (fun X6 hX7 => ?_)
    refine v_aload_n O dX10_name_202 rfl 0 rfl ?_
    refine v_iconst O dX10_name_203 kc_0 ?_
    refine v_putI O dX10_name_204 fo_X10_118 fp_10_12 sh_48 rfl rfl rfl ?_
    refine v_aload_n O dX10_name_207 rfl 0 rfl ?_
    refine v_dup O dX10_name_208 rfl ?_
    refine v_get O dX10_name_209 fo_X10_123 sh_48 rfl rfl ?_
    refine v_iconst O dX10_name_212 kc_1 ?_
    refine v_iadd O dX10_name_213 ?_
    refine v_putI O dX10_name_214 fo_X10_123 fp_10_1 sh_48 rfl rfl rfl ?_
    refine v_nmX (fun X8 hX9 => ?_)
    refine v_aload_n O dX10_name_217 rfl 0 rfl ?_
    refine v_get O dX10_name_218 fo_X10_123 sh_48 rfl rfl ?_
    refine v_iconst O dX10_name_221 kc_1 ?_
    refine v_isub O dX10_name_222 ?_
    exact v_iret O r dX10_name_223 ⟨_, rfl, (((((h.1 g1).2.2 X2 hX3).2.2 X4 hX5).2.2 X6 hX7) X8 hX9)⟩
  · refine v_aload_n O dX10_name_108 rfl 0 rfl ?_
    refine v_get O dX10_name_109 fo_X10_13 sh_48 rfl rfl ?_
    refine v_bipush O dX10_name_112 kb_12 ?_
    refine v_aload_n O dX10_name_114 rfl 0 rfl ?_
    refine v_get O dX10_name_115 fo_X10_123 sh_48 rfl rfl ?_
    refine v_imul O dX10_name_118 ?_
    refine v_iload_n O dX10_name_119 rfl 1 rfl ?_
    refine v_iadd O dX10_name_120 ?_
    refine v_aload_n O dX10_name_121 rfl 0 rfl ?_
    refine v_get O dX10_name_122 fo_X10_34 sh_48 rfl rfl ?_
    refine v_iload_n O dX10_name_125 rfl 1 rfl ?_
    refine v_iald O dX10_name_126 sh_57 (h.2 g1).1 ?_
    refine v_bipush O dX10_name_127 kb_97 ?_
    refine v_isub O dX10_name_129 ?_
    refine v_iast O dX10_name_130 sh_50 (h.2 g1).2.1 ?_
    refine v_nmX (fun X10 hX11 => ?_)
    obtain ⟨w12, hw13⟩ : ∃ y : Int32, y = a2 + 1 := ⟨_, rfl⟩
    refine v_iinc (v := w12) (j := 1) O dX10_name_131 rfl (by rw [hw13]; exact congrArg _ kc_1) (by decide) (lv' := [(2, .int w12), (0, .ref 48)]) rfl ?_
    refine v_goto O dX10_name_134 (tgt := 100) (by decide) ?_
    exact v_loc [1, 0] rfl (e100 w12 X10 Y (((h.2 g1).2.2 X10 hX11) w12 hw13))
set_option maxHeartbeats 4000000 in
set_option maxRecDepth 100000 in
theorem kX10_name_s {Γ : Cxt} {Q : Int32 → XT → YT → Prop} (O : Ok Γ RX10 cX10_name 3 { frames := 1, cells := 0, slots := 0, locals := 25 }) (r : Ret Γ (some .int) (qI Q)) {I15 : Int32 → Int32 → XT → YT → Prop} {I50 : Int32 → XT → YT → Prop} {I100 : Int32 → XT → YT → Prop} (e15 : ∀ (a1 : Int32) (a2 : Int32) (X : XT) (Y : YT), I15 a1 a2 X Y → V Γ 15 [(0, .ref 48), (1, .int a1), (2, .int a2)] [] X Y) (e50 : ∀ (a1 : Int32) (X : XT) (Y : YT), I50 a1 X Y → V Γ 50 [(0, .ref 48), (1, .int a1)] [] X Y) (e100 : ∀ (a2 : Int32) (X : XT) (Y : YT), I100 a2 X Y → V Γ 100 [(0, .ref 48), (2, .int a2)] [] X Y) {X : XT} {Y : YT} (h : BX10_name_s I15 I50 I100 Q X Y) : V Γ 0 [(0, .ref 48)] [] X Y := by
  refine v_aload_n O dX10_name_0 rfl 0 rfl ?_
  refine v_get O dX10_name_1 fo_X10_118 sh_48 rfl rfl ?_
  refine v_i2l O dX10_name_4 ?_
  refine v_lconst O dX10_name_5 (v := 1) (by decide) ?_
  refine v_ldc2 O dX10_name_6 kl_X10_126 ?_
  refine v_callS (rm' := { frames := 0, cells := 0, slots := 0, locals := 0 }) (As := [.long ((X 48 12).toInt64), .long (1 : Int64), .long (12 : Int64)]) (st := []) O dX10_name_9 ci_X10_in ml_X10_108 ms_X10_in ⟨rfl, rfl, (by decide), (by decide)⟩ rfl (Nat.le_of_ble_eq_true rfl) rfl (mX10_in h) (k_I (fun r1 X2 Y3 h4 => ?_))
  refine v_istore_n (lv' := [(1, .int r1), (0, .ref 48)]) O dX10_name_12 rfl (by decide) rfl ?_
  refine v_iconst O dX10_name_13 kc_0 ?_
  refine v_istore_n (lv' := [(2, .int 0), (1, .int r1), (0, .ref 48)]) O dX10_name_14 rfl (by decide) rfl ?_
  exact v_loc [2, 1, 0] rfl (e15 r1 0 X2 Y3 h4)
set_option maxRecDepth 100000 in
theorem mX10_name {Γ : Cxt} {X : XT} {Y : YT} {Q : Int32 → XT → YT → Prop} (h : PX10_name X Y Q) : MT Γ yX10_name (.code yX10_name cX10_name 3 (some .int) :: wl) { frames := 1, cells := 0, slots := 0, locals := 25 } [.ref 48] X Y (qI Q) :=
  mt_of (by decide) (Nat.le_of_ble_eq_true rfl) (fun Γ _ O r => kX10_name_s O r (fun _ _ _ _ g => g) (fun _ _ _ g => g) (fun _ _ _ g => g) (h (fun a1 a2 X Y => V Γ 15 [(0, .ref 48), (1, .int a1), (2, .int a2)] [] X Y) (fun a1 X Y => V Γ 50 [(0, .ref 48), (1, .int a1)] [] X Y) (fun a2 X Y => V Γ 100 [(0, .ref 48), (2, .int a2)] [] X Y) (fun _ _ _ _ g => kX10_name_15 O r (fun _ _ _ _ g => g) (fun _ _ _ g => g) (fun _ _ _ g => g) g) (fun _ _ _ g => kX10_name_50 O r (fun _ _ _ _ g => g) (fun _ _ _ g => g) (fun _ _ _ g => g) g) (fun _ _ _ g => kX10_name_100 O r (fun _ _ _ _ g => g) (fun _ _ _ g => g) (fun _ _ _ g => g) g)))
theorem dX10_noName_0 : decode cX10_noName 0 = .ok (.iload_n 1, 1) := by decide +kernel
theorem dX10_noName_1 : decode cX10_noName 1 = .ok (.i2l, 1) := by decide +kernel
theorem dX10_noName_2 : decode cX10_noName 2 = .ok (.lconst 0, 1) := by decide +kernel
theorem dX10_noName_3 : decode cX10_noName 3 = .ok (.aload_n 0, 1) := by decide +kernel
theorem dX10_noName_4 : decode cX10_noName 4 = .ok (.getfield 123, 3) := by decide +kernel
theorem dX10_noName_7 : decode cX10_noName 7 = .ok (.iconst 1, 1) := by decide +kernel
theorem dX10_noName_8 : decode cX10_noName 8 = .ok (.isub, 1) := by decide +kernel
theorem dX10_noName_9 : decode cX10_noName 9 = .ok (.i2l, 1) := by decide +kernel
theorem dX10_noName_10 : decode cX10_noName 10 = .ok (.invokestatic 108, 3) := by decide +kernel
theorem dX10_noName_13 : decode cX10_noName 13 = .ok (.ifCond .ne 7, 3) := by decide +kernel
theorem dX10_noName_16 : decode cX10_noName 16 = .ok (.iconst 1, 1) := by decide +kernel
theorem dX10_noName_17 : decode cX10_noName 17 = .ok (.goto 4, 3) := by decide +kernel
theorem dX10_noName_20 : decode cX10_noName 20 = .ok (.iconst 0, 1) := by decide +kernel
theorem dX10_noName_21 : decode cX10_noName 21 = .ok (.ireturn, 1) := by decide +kernel
def BX10_noName_s (Q : Int32 → XT → YT → Prop) (p0 : Int32) (X : XT) (Y : YT) : Prop :=
  PX10_in (p0.toInt64) (0 : Int64) (((X 48 1) - 1).toInt64) X Y (fun r1 X2 Y3 => ((¬ r1 = 0 → Q 0 X2 Y3) ∧ (r1 = 0 → Q 1 X2 Y3)))
def PX10_noName (p0 : Int32) (X : XT) (Y : YT) (Q : Int32 → XT → YT → Prop) : Prop :=  BX10_noName_s Q p0 X Y
set_option maxHeartbeats 4000000 in
set_option maxRecDepth 100000 in
theorem kX10_noName_s {Γ : Cxt} {Q : Int32 → XT → YT → Prop} (O : Ok Γ RX10 cX10_noName 2 { frames := 1, cells := 0, slots := 0, locals := 25 }) (r : Ret Γ (some .boolean) (qI Q)) {p0 : Int32} {X : XT} {Y : YT} (h : BX10_noName_s Q p0 X Y) : V Γ 0 [(0, .ref 48), (1, .int p0)] [] X Y := by
  refine v_iload_n O dX10_noName_0 rfl 1 rfl ?_
  refine v_i2l O dX10_noName_1 ?_
  refine v_lconst O dX10_noName_2 (v := 0) (by decide) ?_
  refine v_aload_n O dX10_noName_3 rfl 0 rfl ?_
  refine v_get O dX10_noName_4 fo_X10_123 sh_48 rfl rfl ?_
  refine v_iconst O dX10_noName_7 kc_1 ?_
  refine v_isub O dX10_noName_8 ?_
  refine v_i2l O dX10_noName_9 ?_
  refine v_callS (rm' := { frames := 0, cells := 0, slots := 0, locals := 0 }) (As := [.long (p0.toInt64), .long (0 : Int64), .long (((X 48 1) - 1).toInt64)]) (st := []) O dX10_noName_10 ci_X10_in ml_X10_108 ms_X10_in ⟨rfl, rfl, (by decide), (by decide)⟩ rfl (Nat.le_of_ble_eq_true rfl) rfl (mX10_in h) (k_I (fun r1 X2 Y3 h4 => ?_))
  refine v_if_ne (tgt := 20) O dX10_noName_13 (by decide) (fun g5 => ?_) (fun g5 => ?_)
  · refine v_iconst O dX10_noName_20 kc_0 ?_
    exact v_zret O r dX10_noName_21 (by decide) ⟨_, rfl, (h4.1 g5)⟩
  · refine v_iconst O dX10_noName_16 kc_1 ?_
    refine v_goto O dX10_noName_17 (tgt := 21) (by decide) ?_
    exact v_zret O r dX10_noName_21 (by decide) ⟨_, rfl, (h4.2 g5)⟩
set_option maxRecDepth 100000 in
theorem mX10_noName {Γ : Cxt} {p0 : Int32} {X : XT} {Y : YT} {Q : Int32 → XT → YT → Prop} (h : PX10_noName p0 X Y Q) : MT Γ yX10_noName (.code yX10_noName cX10_noName 2 (some .boolean) :: wl) { frames := 1, cells := 0, slots := 0, locals := 25 } [.ref 48, .int p0] X Y (qI Q) :=
  mt_of (by decide) (Nat.le_of_ble_eq_true rfl) (fun Γ _ O r => kX10_noName_s O r  (h ))
theorem dX10_noSet_0 : decode cX10_noSet 0 = .ok (.iload_n 1, 1) := by decide +kernel
theorem dX10_noSet_1 : decode cX10_noSet 1 = .ok (.i2l, 1) := by decide +kernel
theorem dX10_noSet_2 : decode cX10_noSet 2 = .ok (.lconst 0, 1) := by decide +kernel
theorem dX10_noSet_3 : decode cX10_noSet 3 = .ok (.iconst 1, 1) := by decide +kernel
theorem dX10_noSet_4 : decode cX10_noSet 4 = .ok (.aload_n 0, 1) := by decide +kernel
theorem dX10_noSet_5 : decode cX10_noSet 5 = .ok (.getfield 123, 3) := by decide +kernel
theorem dX10_noSet_8 : decode cX10_noSet 8 = .ok (.ishl, 1) := by decide +kernel
theorem dX10_noSet_9 : decode cX10_noSet 9 = .ok (.iconst 1, 1) := by decide +kernel
theorem dX10_noSet_10 : decode cX10_noSet 10 = .ok (.isub, 1) := by decide +kernel
theorem dX10_noSet_11 : decode cX10_noSet 11 = .ok (.i2l, 1) := by decide +kernel
theorem dX10_noSet_12 : decode cX10_noSet 12 = .ok (.invokestatic 108, 3) := by decide +kernel
theorem dX10_noSet_15 : decode cX10_noSet 15 = .ok (.ifCond .ne 7, 3) := by decide +kernel
theorem dX10_noSet_18 : decode cX10_noSet 18 = .ok (.iconst 1, 1) := by decide +kernel
theorem dX10_noSet_19 : decode cX10_noSet 19 = .ok (.goto 4, 3) := by decide +kernel
theorem dX10_noSet_22 : decode cX10_noSet 22 = .ok (.iconst 0, 1) := by decide +kernel
theorem dX10_noSet_23 : decode cX10_noSet 23 = .ok (.ireturn, 1) := by decide +kernel
def BX10_noSet_s (Q : Int32 → XT → YT → Prop) (p0 : Int32) (X : XT) (Y : YT) : Prop :=
  PX10_in (p0.toInt64) (0 : Int64) (((1 <<< ((X 48 1) &&& 31)) - 1).toInt64) X Y (fun r1 X2 Y3 => ((¬ r1 = 0 → Q 0 X2 Y3) ∧ (r1 = 0 → Q 1 X2 Y3)))
def PX10_noSet (p0 : Int32) (X : XT) (Y : YT) (Q : Int32 → XT → YT → Prop) : Prop :=  BX10_noSet_s Q p0 X Y
set_option maxHeartbeats 4000000 in
set_option maxRecDepth 100000 in
theorem kX10_noSet_s {Γ : Cxt} {Q : Int32 → XT → YT → Prop} (O : Ok Γ RX10 cX10_noSet 2 { frames := 1, cells := 0, slots := 0, locals := 25 }) (r : Ret Γ (some .boolean) (qI Q)) {p0 : Int32} {X : XT} {Y : YT} (h : BX10_noSet_s Q p0 X Y) : V Γ 0 [(0, .ref 48), (1, .int p0)] [] X Y := by
  refine v_iload_n O dX10_noSet_0 rfl 1 rfl ?_
  refine v_i2l O dX10_noSet_1 ?_
  refine v_lconst O dX10_noSet_2 (v := 0) (by decide) ?_
  refine v_iconst O dX10_noSet_3 kc_1 ?_
  refine v_aload_n O dX10_noSet_4 rfl 0 rfl ?_
  refine v_get O dX10_noSet_5 fo_X10_123 sh_48 rfl rfl ?_
  refine v_ishl O dX10_noSet_8 ?_
  refine v_iconst O dX10_noSet_9 kc_1 ?_
  refine v_isub O dX10_noSet_10 ?_
  refine v_i2l O dX10_noSet_11 ?_
  refine v_callS (rm' := { frames := 0, cells := 0, slots := 0, locals := 0 }) (As := [.long (p0.toInt64), .long (0 : Int64), .long (((1 <<< ((X 48 1) &&& 31)) - 1).toInt64)]) (st := []) O dX10_noSet_12 ci_X10_in ml_X10_108 ms_X10_in ⟨rfl, rfl, (by decide), (by decide)⟩ rfl (Nat.le_of_ble_eq_true rfl) rfl (mX10_in h) (k_I (fun r1 X2 Y3 h4 => ?_))
  refine v_if_ne (tgt := 22) O dX10_noSet_15 (by decide) (fun g5 => ?_) (fun g5 => ?_)
  · refine v_iconst O dX10_noSet_22 kc_0 ?_
    exact v_zret O r dX10_noSet_23 (by decide) ⟨_, rfl, (h4.1 g5)⟩
  · refine v_iconst O dX10_noSet_18 kc_1 ?_
    refine v_goto O dX10_noSet_19 (tgt := 23) (by decide) ?_
    exact v_zret O r dX10_noSet_23 (by decide) ⟨_, rfl, (h4.2 g5)⟩
set_option maxRecDepth 100000 in
theorem mX10_noSet {Γ : Cxt} {p0 : Int32} {X : XT} {Y : YT} {Q : Int32 → XT → YT → Prop} (h : PX10_noSet p0 X Y Q) : MT Γ yX10_noSet (.code yX10_noSet cX10_noSet 2 (some .boolean) :: wl) { frames := 1, cells := 0, slots := 0, locals := 25 } [.ref 48, .int p0] X Y (qI Q) :=
  mt_of (by decide) (Nat.le_of_ble_eq_true rfl) (fun Γ _ O r => kX10_noSet_s O r  (h ))
theorem dX10_offices_0 : decode cX10_offices 0 = .ok (.aload_n 0, 1) := by decide +kernel
theorem dX10_offices_1 : decode cX10_offices 1 = .ok (.iload_n 1, 1) := by decide +kernel
theorem dX10_offices_2 : decode cX10_offices 2 = .ok (.invokevirtual 136, 3) := by decide +kernel
theorem dX10_offices_5 : decode cX10_offices 5 = .ok (.ifCond .eq 7, 3) := by decide +kernel
theorem dX10_offices_8 : decode cX10_offices 8 = .ok (.sipush (-1001), 3) := by decide +kernel
theorem dX10_offices_11 : decode cX10_offices 11 = .ok (.ireturn, 1) := by decide +kernel
theorem dX10_offices_12 : decode cX10_offices 12 = .ok (.iload_n 2, 1) := by decide +kernel
theorem dX10_offices_13 : decode cX10_offices 13 = .ok (.i2l, 1) := by decide +kernel
theorem dX10_offices_14 : decode cX10_offices 14 = .ok (.lconst 0, 1) := by decide +kernel
theorem dX10_offices_15 : decode cX10_offices 15 = .ok (.ldc2_w 140, 3) := by decide +kernel
theorem dX10_offices_18 : decode cX10_offices 18 = .ok (.invokestatic 108, 3) := by decide +kernel
theorem dX10_offices_21 : decode cX10_offices 21 = .ok (.ifCond .ne 7, 3) := by decide +kernel
theorem dX10_offices_24 : decode cX10_offices 24 = .ok (.sipush (-1002), 3) := by decide +kernel
theorem dX10_offices_27 : decode cX10_offices 27 = .ok (.ireturn, 1) := by decide +kernel
theorem dX10_offices_28 : decode cX10_offices 28 = .ok (.aload_n 0, 1) := by decide +kernel
theorem dX10_offices_29 : decode cX10_offices 29 = .ok (.getfield 19, 3) := by decide +kernel
theorem dX10_offices_32 : decode cX10_offices 32 = .ok (.iload_n 1, 1) := by decide +kernel
theorem dX10_offices_33 : decode cX10_offices 33 = .ok (.iaload, 1) := by decide +kernel
theorem dX10_offices_34 : decode cX10_offices 34 = .ok (.istore_n 3, 1) := by decide +kernel
theorem dX10_offices_35 : decode cX10_offices 35 = .ok (.aload_n 0, 1) := by decide +kernel
theorem dX10_offices_36 : decode cX10_offices 36 = .ok (.getfield 19, 3) := by decide +kernel
theorem dX10_offices_39 : decode cX10_offices 39 = .ok (.iload_n 1, 1) := by decide +kernel
theorem dX10_offices_40 : decode cX10_offices 40 = .ok (.iload_n 2, 1) := by decide +kernel
theorem dX10_offices_41 : decode cX10_offices 41 = .ok (.iastore, 1) := by decide +kernel
theorem dX10_offices_42 : decode cX10_offices 42 = .ok (.iload_n 3, 1) := by decide +kernel
theorem dX10_offices_43 : decode cX10_offices 43 = .ok (.ireturn, 1) := by decide +kernel
def BX10_offices_s (Q : Int32 → XT → YT → Prop) (p0 : Int32) (p1 : Int32) (X : XT) (Y : YT) : Prop :=
  PX10_noName p0 X Y (fun r1 X2 Y3 => ((r1 = 0 → PX10_in (p1.toInt64) (0 : Int64) (15 : Int64) X2 Y3 (fun r6 X7 Y8 => ((¬ r6 = 0 → vp_in p0 10 ∧ ∀ w11 : Int32, w11 = (X7 52 p0.toNatClampNeg) → vp_in p0 10 ∧ Q w11 (sX X7 52 p0.toNatClampNeg p1) Y8) ∧ (r6 = 0 → Q (-1002) X7 Y8)))) ∧ (¬ r1 = 0 → Q (-1001) X2 Y3)))
def PX10_offices (p0 : Int32) (p1 : Int32) (X : XT) (Y : YT) (Q : Int32 → XT → YT → Prop) : Prop :=  BX10_offices_s Q p0 p1 X Y
set_option maxHeartbeats 4000000 in
set_option maxRecDepth 100000 in
theorem kX10_offices_s {Γ : Cxt} {Q : Int32 → XT → YT → Prop} (O : Ok Γ RX10 cX10_offices 4 { frames := 2, cells := 0, slots := 0, locals := 46 }) (r : Ret Γ (some .int) (qI Q)) {p0 : Int32} {p1 : Int32} {X : XT} {Y : YT} (h : BX10_offices_s Q p0 p1 X Y) : V Γ 0 [(0, .ref 48), (1, .int p0), (2, .int p1)] [] X Y := by
  refine v_aload_n O dX10_offices_0 rfl 0 rfl ?_
  refine v_iload_n O dX10_offices_1 rfl 1 rfl ?_
  refine v_callV (rm' := { frames := 1, cells := 0, slots := 0, locals := 25 }) (As := [.int p0]) (st := []) O dX10_offices_2 ci_X10_noName ml_X10_136 mi_X10_noName sh_48 rfl ⟨rfl, rfl, (by decide), (by decide)⟩ rfl (Nat.le_of_ble_eq_true rfl) rfl (mX10_noName h) (k_I (fun r1 X2 Y3 h4 => ?_))
  refine v_if_eq (tgt := 12) O dX10_offices_5 (by decide) (fun g5 => ?_) (fun g5 => ?_)
  · refine v_iload_n O dX10_offices_12 rfl 2 rfl ?_
    refine v_i2l O dX10_offices_13 ?_
    refine v_lconst O dX10_offices_14 (v := 0) (by decide) ?_
    refine v_ldc2 O dX10_offices_15 kl_X10_140 ?_
    refine v_callS (rm' := { frames := 0, cells := 0, slots := 0, locals := 0 }) (As := [.long (p1.toInt64), .long (0 : Int64), .long (15 : Int64)]) (st := []) O dX10_offices_18 ci_X10_in ml_X10_108 ms_X10_in ⟨rfl, rfl, (by decide), (by decide)⟩ rfl (Nat.le_of_ble_eq_true rfl) rfl (mX10_in (h4.1 g5)) (k_I (fun r6 X7 Y8 h9 => ?_))
    refine v_if_ne (tgt := 28) O dX10_offices_21 (by decide) (fun g10 => ?_) (fun g10 => ?_)
    · refine v_aload_n O dX10_offices_28 rfl 0 rfl ?_
      refine v_get O dX10_offices_29 fo_X10_19 sh_48 rfl rfl ?_
      refine v_iload_n O dX10_offices_32 rfl 1 rfl ?_
      refine v_iald O dX10_offices_33 sh_52 (h9.1 g10).1 ?_
      refine v_topi (fun w11 hw12 => ?_)
      refine v_istore_n (lv' := [(3, .int w11), (0, .ref 48), (1, .int p0), (2, .int p1)]) O dX10_offices_34 rfl (by decide) rfl ?_
      refine v_aload_n O dX10_offices_35 rfl 1 rfl ?_
      refine v_get O dX10_offices_36 fo_X10_19 sh_48 rfl rfl ?_
      refine v_iload_n O dX10_offices_39 rfl 2 rfl ?_
      refine v_iload_n O dX10_offices_40 rfl 3 rfl ?_
      refine v_iast O dX10_offices_41 sh_52 ((h9.1 g10).2 w11 hw12).1 ?_
      refine v_iload_n O dX10_offices_42 rfl 0 rfl ?_
      exact v_iret O r dX10_offices_43 ⟨_, rfl, ((h9.1 g10).2 w11 hw12).2⟩
    · refine v_sipush O dX10_offices_24 ks_m1002 ?_
      exact v_iret O r dX10_offices_27 ⟨_, rfl, (h9.2 g10)⟩
  · refine v_sipush O dX10_offices_8 ks_m1001 ?_
    exact v_iret O r dX10_offices_11 ⟨_, rfl, (h4.2 g5)⟩
set_option maxRecDepth 100000 in
theorem mX10_offices {Γ : Cxt} {p0 : Int32} {p1 : Int32} {X : XT} {Y : YT} {Q : Int32 → XT → YT → Prop} (h : PX10_offices p0 p1 X Y Q) : MT Γ yX10_offices (.code yX10_offices cX10_offices 4 (some .int) :: wl) { frames := 2, cells := 0, slots := 0, locals := 46 } [.ref 48, .int p0, .int p1] X Y (qI Q) :=
  mt_of (by decide) (Nat.le_of_ble_eq_true rfl) (fun Γ _ O r => kX10_offices_s O r  (h ))
theorem dX10_there_0 : decode cX10_there 0 = .ok (.aload_n 0, 1) := by decide +kernel
theorem dX10_there_1 : decode cX10_there 1 = .ok (.iload_n 1, 1) := by decide +kernel
theorem dX10_there_2 : decode cX10_there 2 = .ok (.invokevirtual 136, 3) := by decide +kernel
theorem dX10_there_5 : decode cX10_there 5 = .ok (.ifCond .eq 7, 3) := by decide +kernel
theorem dX10_there_8 : decode cX10_there 8 = .ok (.sipush (-1001), 3) := by decide +kernel
theorem dX10_there_11 : decode cX10_there 11 = .ok (.ireturn, 1) := by decide +kernel
theorem dX10_there_12 : decode cX10_there 12 = .ok (.iload_n 2, 1) := by decide +kernel
theorem dX10_there_13 : decode cX10_there 13 = .ok (.i2l, 1) := by decide +kernel
theorem dX10_there_14 : decode cX10_there 14 = .ok (.lconst 0, 1) := by decide +kernel
theorem dX10_there_15 : decode cX10_there 15 = .ok (.ldc2_w 142, 3) := by decide +kernel
theorem dX10_there_18 : decode cX10_there 18 = .ok (.invokestatic 108, 3) := by decide +kernel
theorem dX10_there_21 : decode cX10_there 21 = .ok (.ifCond .eq 16, 3) := by decide +kernel
theorem dX10_there_24 : decode cX10_there 24 = .ok (.iload_n 3, 1) := by decide +kernel
theorem dX10_there_25 : decode cX10_there 25 = .ok (.i2l, 1) := by decide +kernel
theorem dX10_there_26 : decode cX10_there 26 = .ok (.iload_n 2, 1) := by decide +kernel
theorem dX10_there_27 : decode cX10_there 27 = .ok (.i2l, 1) := by decide +kernel
theorem dX10_there_28 : decode cX10_there 28 = .ok (.ldc2_w 142, 3) := by decide +kernel
theorem dX10_there_31 : decode cX10_there 31 = .ok (.invokestatic 108, 3) := by decide +kernel
theorem dX10_there_34 : decode cX10_there 34 = .ok (.ifCond .ne 7, 3) := by decide +kernel
theorem dX10_there_37 : decode cX10_there 37 = .ok (.sipush (-1002), 3) := by decide +kernel
theorem dX10_there_40 : decode cX10_there 40 = .ok (.ireturn, 1) := by decide +kernel
theorem dX10_there_41 : decode cX10_there 41 = .ok (.aload_n 0, 1) := by decide +kernel
theorem dX10_there_42 : decode cX10_there 42 = .ok (.getfield 25, 3) := by decide +kernel
theorem dX10_there_45 : decode cX10_there 45 = .ok (.iload_n 1, 1) := by decide +kernel
theorem dX10_there_46 : decode cX10_there 46 = .ok (.iaload, 1) := by decide +kernel
theorem dX10_there_47 : decode cX10_there 47 = .ok (.aload_n 0, 1) := by decide +kernel
theorem dX10_there_48 : decode cX10_there 48 = .ok (.getfield 22, 3) := by decide +kernel
theorem dX10_there_51 : decode cX10_there 51 = .ok (.iload_n 1, 1) := by decide +kernel
theorem dX10_there_52 : decode cX10_there 52 = .ok (.iaload, 1) := by decide +kernel
theorem dX10_there_53 : decode cX10_there 53 = .ok (.isub, 1) := by decide +kernel
theorem dX10_there_54 : decode cX10_there 54 = .ok (.iconst 1, 1) := by decide +kernel
theorem dX10_there_55 : decode cX10_there 55 = .ok (.iadd, 1) := by decide +kernel
theorem dX10_there_56 : decode cX10_there 56 = .ok (.istore 4, 2) := by decide +kernel
theorem dX10_there_58 : decode cX10_there 58 = .ok (.aload_n 0, 1) := by decide +kernel
theorem dX10_there_59 : decode cX10_there 59 = .ok (.getfield 22, 3) := by decide +kernel
theorem dX10_there_62 : decode cX10_there 62 = .ok (.iload_n 1, 1) := by decide +kernel
theorem dX10_there_63 : decode cX10_there 63 = .ok (.iload_n 2, 1) := by decide +kernel
theorem dX10_there_64 : decode cX10_there 64 = .ok (.iastore, 1) := by decide +kernel
theorem dX10_there_65 : decode cX10_there 65 = .ok (.aload_n 0, 1) := by decide +kernel
theorem dX10_there_66 : decode cX10_there 66 = .ok (.getfield 25, 3) := by decide +kernel
theorem dX10_there_69 : decode cX10_there 69 = .ok (.iload_n 1, 1) := by decide +kernel
theorem dX10_there_70 : decode cX10_there 70 = .ok (.iload_n 3, 1) := by decide +kernel
theorem dX10_there_71 : decode cX10_there 71 = .ok (.iastore, 1) := by decide +kernel
theorem dX10_there_72 : decode cX10_there 72 = .ok (.iload 4, 2) := by decide +kernel
theorem dX10_there_74 : decode cX10_there 74 = .ok (.ireturn, 1) := by decide +kernel
def BX10_there_s (Q : Int32 → XT → YT → Prop) (p0 : Int32) (p1 : Int32) (p2 : Int32) (X : XT) (Y : YT) : Prop :=
  PX10_noName p0 X Y (fun r1 X2 Y3 => ((r1 = 0 → PX10_in (p1.toInt64) (0 : Int64) (99 : Int64) X2 Y3 (fun r6 X7 Y8 => ((r6 = 0 → Q (-1002) X7 Y8) ∧ (¬ r6 = 0 → PX10_in (p2.toInt64) (p1.toInt64) (99 : Int64) X7 Y8 (fun r11 X12 Y13 => ((¬ r11 = 0 → vp_in p0 10 ∧ vp_in p0 10 ∧ ∀ w16 : Int32, w16 = (((X12 54 p0.toNatClampNeg) - (X12 53 p0.toNatClampNeg)) + 1) → vp_in p0 10 ∧ vp_in p0 10 ∧ ∀ X18 : XT, X18 = sX (sX X12 53 p0.toNatClampNeg p1) 54 p0.toNatClampNeg p2 → Q w16 X18 Y13) ∧ (r11 = 0 → Q (-1002) X12 Y13))))))) ∧ (¬ r1 = 0 → Q (-1001) X2 Y3)))
def PX10_there (p0 : Int32) (p1 : Int32) (p2 : Int32) (X : XT) (Y : YT) (Q : Int32 → XT → YT → Prop) : Prop :=  BX10_there_s Q p0 p1 p2 X Y
set_option maxHeartbeats 4000000 in
set_option maxRecDepth 100000 in
theorem kX10_there_s {Γ : Cxt} {Q : Int32 → XT → YT → Prop} (O : Ok Γ RX10 cX10_there 5 { frames := 2, cells := 0, slots := 0, locals := 46 }) (r : Ret Γ (some .int) (qI Q)) {p0 : Int32} {p1 : Int32} {p2 : Int32} {X : XT} {Y : YT} (h : BX10_there_s Q p0 p1 p2 X Y) : V Γ 0 [(0, .ref 48), (1, .int p0), (2, .int p1), (3, .int p2)] [] X Y := by
  refine v_aload_n O dX10_there_0 rfl 0 rfl ?_
  refine v_iload_n O dX10_there_1 rfl 1 rfl ?_
  refine v_callV (rm' := { frames := 1, cells := 0, slots := 0, locals := 25 }) (As := [.int p0]) (st := []) O dX10_there_2 ci_X10_noName ml_X10_136 mi_X10_noName sh_48 rfl ⟨rfl, rfl, (by decide), (by decide)⟩ rfl (Nat.le_of_ble_eq_true rfl) rfl (mX10_noName h) (k_I (fun r1 X2 Y3 h4 => ?_))
  refine v_if_eq (tgt := 12) O dX10_there_5 (by decide) (fun g5 => ?_) (fun g5 => ?_)
  · refine v_iload_n O dX10_there_12 rfl 2 rfl ?_
    refine v_i2l O dX10_there_13 ?_
    refine v_lconst O dX10_there_14 (v := 0) (by decide) ?_
    refine v_ldc2 O dX10_there_15 kl_X10_142 ?_
    refine v_callS (rm' := { frames := 0, cells := 0, slots := 0, locals := 0 }) (As := [.long (p1.toInt64), .long (0 : Int64), .long (99 : Int64)]) (st := []) O dX10_there_18 ci_X10_in ml_X10_108 ms_X10_in ⟨rfl, rfl, (by decide), (by decide)⟩ rfl (Nat.le_of_ble_eq_true rfl) rfl (mX10_in (h4.1 g5)) (k_I (fun r6 X7 Y8 h9 => ?_))
    refine v_if_eq (tgt := 37) O dX10_there_21 (by decide) (fun g10 => ?_) (fun g10 => ?_)
    · refine v_sipush O dX10_there_37 ks_m1002 ?_
      exact v_iret O r dX10_there_40 ⟨_, rfl, (h9.1 g10)⟩
    · refine v_iload_n O dX10_there_24 rfl 3 rfl ?_
      refine v_i2l O dX10_there_25 ?_
      refine v_iload_n O dX10_there_26 rfl 2 rfl ?_
      refine v_i2l O dX10_there_27 ?_
      refine v_ldc2 O dX10_there_28 kl_X10_142 ?_
      refine v_callS (rm' := { frames := 0, cells := 0, slots := 0, locals := 0 }) (As := [.long (p2.toInt64), .long (p1.toInt64), .long (99 : Int64)]) (st := []) O dX10_there_31 ci_X10_in ml_X10_108 ms_X10_in ⟨rfl, rfl, (by decide), (by decide)⟩ rfl (Nat.le_of_ble_eq_true rfl) rfl (mX10_in (h9.2 g10)) (k_I (fun r11 X12 Y13 h14 => ?_))
      refine v_if_ne (tgt := 41) O dX10_there_34 (by decide) (fun g15 => ?_) (fun g15 => ?_)
      · refine v_aload_n O dX10_there_41 rfl 0 rfl ?_
        refine v_get O dX10_there_42 fo_X10_25 sh_48 rfl rfl ?_
        refine v_iload_n O dX10_there_45 rfl 1 rfl ?_
        refine v_iald O dX10_there_46 sh_54 (h14.1 g15).1 ?_
        refine v_aload_n O dX10_there_47 rfl 0 rfl ?_
        refine v_get O dX10_there_48 fo_X10_22 sh_48 rfl rfl ?_
        refine v_iload_n O dX10_there_51 rfl 1 rfl ?_
        refine v_iald O dX10_there_52 sh_53 (h14.1 g15).2.1 ?_
        refine v_isub O dX10_there_53 ?_
        refine v_iconst O dX10_there_54 kc_1 ?_
        refine v_iadd O dX10_there_55 ?_
        refine v_topi (fun w16 hw17 => ?_)
        refine v_istore (lv' := [(4, .int w16), (0, .ref 48), (1, .int p0), (2, .int p1), (3, .int p2)]) O dX10_there_56 (by decide) rfl ?_
        refine v_aload_n O dX10_there_58 rfl 1 rfl ?_
        refine v_get O dX10_there_59 fo_X10_22 sh_48 rfl rfl ?_
        refine v_iload_n O dX10_there_62 rfl 2 rfl ?_
        refine v_iload_n O dX10_there_63 rfl 3 rfl ?_
        refine v_iast O dX10_there_64 sh_53 ((h14.1 g15).2.2 w16 hw17).1 ?_
        refine v_aload_n O dX10_there_65 rfl 1 rfl ?_
        refine v_get O dX10_there_66 fo_X10_25 sh_48 rfl rfl ?_
        refine v_iload_n O dX10_there_69 rfl 2 rfl ?_
        refine v_iload_n O dX10_there_70 rfl 4 rfl ?_
        refine v_iast O dX10_there_71 sh_54 ((h14.1 g15).2.2 w16 hw17).2.1 ?_
        refine v_nmX (fun X18 hX19 => ?_)
        refine v_iload O dX10_there_72 0 rfl ?_
        exact v_iret O r dX10_there_74 ⟨_, rfl, (((h14.1 g15).2.2 w16 hw17).2.2 X18 hX19)⟩
      · refine v_sipush O dX10_there_37 ks_m1002 ?_
        exact v_iret O r dX10_there_40 ⟨_, rfl, (h14.2 g15)⟩
  · refine v_sipush O dX10_there_8 ks_m1001 ?_
    exact v_iret O r dX10_there_11 ⟨_, rfl, (h4.2 g5)⟩
set_option maxRecDepth 100000 in
theorem mX10_there {Γ : Cxt} {p0 : Int32} {p1 : Int32} {p2 : Int32} {X : XT} {Y : YT} {Q : Int32 → XT → YT → Prop} (h : PX10_there p0 p1 p2 X Y Q) : MT Γ yX10_there (.code yX10_there cX10_there 5 (some .int) :: wl) { frames := 2, cells := 0, slots := 0, locals := 46 } [.ref 48, .int p0, .int p1, .int p2] X Y (qI Q) :=
  mt_of (by decide) (Nat.le_of_ble_eq_true rfl) (fun Γ _ O r => kX10_there_s O r  (h ))
theorem dX10_weight_0 : decode cX10_weight 0 = .ok (.aload_n 0, 1) := by decide +kernel
theorem dX10_weight_1 : decode cX10_weight 1 = .ok (.iload_n 1, 1) := by decide +kernel
theorem dX10_weight_2 : decode cX10_weight 2 = .ok (.invokevirtual 136, 3) := by decide +kernel
theorem dX10_weight_5 : decode cX10_weight 5 = .ok (.ifCond .eq 7, 3) := by decide +kernel
theorem dX10_weight_8 : decode cX10_weight 8 = .ok (.sipush (-1001), 3) := by decide +kernel
theorem dX10_weight_11 : decode cX10_weight 11 = .ok (.ireturn, 1) := by decide +kernel
theorem dX10_weight_12 : decode cX10_weight 12 = .ok (.iload_n 2, 1) := by decide +kernel
theorem dX10_weight_13 : decode cX10_weight 13 = .ok (.i2l, 1) := by decide +kernel
theorem dX10_weight_14 : decode cX10_weight 14 = .ok (.lconst 1, 1) := by decide +kernel
theorem dX10_weight_15 : decode cX10_weight 15 = .ok (.ldc2_w 144, 3) := by decide +kernel
theorem dX10_weight_18 : decode cX10_weight 18 = .ok (.invokestatic 108, 3) := by decide +kernel
theorem dX10_weight_21 : decode cX10_weight 21 = .ok (.ifCond .ne 7, 3) := by decide +kernel
theorem dX10_weight_24 : decode cX10_weight 24 = .ok (.sipush (-1002), 3) := by decide +kernel
theorem dX10_weight_27 : decode cX10_weight 27 = .ok (.ireturn, 1) := by decide +kernel
theorem dX10_weight_28 : decode cX10_weight 28 = .ok (.aload_n 0, 1) := by decide +kernel
theorem dX10_weight_29 : decode cX10_weight 29 = .ok (.getfield 28, 3) := by decide +kernel
theorem dX10_weight_32 : decode cX10_weight 32 = .ok (.iload_n 1, 1) := by decide +kernel
theorem dX10_weight_33 : decode cX10_weight 33 = .ok (.iaload, 1) := by decide +kernel
theorem dX10_weight_34 : decode cX10_weight 34 = .ok (.istore_n 3, 1) := by decide +kernel
theorem dX10_weight_35 : decode cX10_weight 35 = .ok (.aload_n 0, 1) := by decide +kernel
theorem dX10_weight_36 : decode cX10_weight 36 = .ok (.getfield 28, 3) := by decide +kernel
theorem dX10_weight_39 : decode cX10_weight 39 = .ok (.iload_n 1, 1) := by decide +kernel
theorem dX10_weight_40 : decode cX10_weight 40 = .ok (.iload_n 2, 1) := by decide +kernel
theorem dX10_weight_41 : decode cX10_weight 41 = .ok (.iastore, 1) := by decide +kernel
theorem dX10_weight_42 : decode cX10_weight 42 = .ok (.iload_n 3, 1) := by decide +kernel
theorem dX10_weight_43 : decode cX10_weight 43 = .ok (.ireturn, 1) := by decide +kernel
def BX10_weight_s (Q : Int32 → XT → YT → Prop) (p0 : Int32) (p1 : Int32) (X : XT) (Y : YT) : Prop :=
  PX10_noName p0 X Y (fun r1 X2 Y3 => ((r1 = 0 → PX10_in (p1.toInt64) (1 : Int64) (9 : Int64) X2 Y3 (fun r6 X7 Y8 => ((¬ r6 = 0 → vp_in p0 10 ∧ ∀ w11 : Int32, w11 = (X7 55 p0.toNatClampNeg) → vp_in p0 10 ∧ Q w11 (sX X7 55 p0.toNatClampNeg p1) Y8) ∧ (r6 = 0 → Q (-1002) X7 Y8)))) ∧ (¬ r1 = 0 → Q (-1001) X2 Y3)))
def PX10_weight (p0 : Int32) (p1 : Int32) (X : XT) (Y : YT) (Q : Int32 → XT → YT → Prop) : Prop :=  BX10_weight_s Q p0 p1 X Y
set_option maxHeartbeats 4000000 in
set_option maxRecDepth 100000 in
theorem kX10_weight_s {Γ : Cxt} {Q : Int32 → XT → YT → Prop} (O : Ok Γ RX10 cX10_weight 4 { frames := 2, cells := 0, slots := 0, locals := 46 }) (r : Ret Γ (some .int) (qI Q)) {p0 : Int32} {p1 : Int32} {X : XT} {Y : YT} (h : BX10_weight_s Q p0 p1 X Y) : V Γ 0 [(0, .ref 48), (1, .int p0), (2, .int p1)] [] X Y := by
  refine v_aload_n O dX10_weight_0 rfl 0 rfl ?_
  refine v_iload_n O dX10_weight_1 rfl 1 rfl ?_
  refine v_callV (rm' := { frames := 1, cells := 0, slots := 0, locals := 25 }) (As := [.int p0]) (st := []) O dX10_weight_2 ci_X10_noName ml_X10_136 mi_X10_noName sh_48 rfl ⟨rfl, rfl, (by decide), (by decide)⟩ rfl (Nat.le_of_ble_eq_true rfl) rfl (mX10_noName h) (k_I (fun r1 X2 Y3 h4 => ?_))
  refine v_if_eq (tgt := 12) O dX10_weight_5 (by decide) (fun g5 => ?_) (fun g5 => ?_)
  · refine v_iload_n O dX10_weight_12 rfl 2 rfl ?_
    refine v_i2l O dX10_weight_13 ?_
    refine v_lconst O dX10_weight_14 (v := 1) (by decide) ?_
    refine v_ldc2 O dX10_weight_15 kl_X10_144 ?_
    refine v_callS (rm' := { frames := 0, cells := 0, slots := 0, locals := 0 }) (As := [.long (p1.toInt64), .long (1 : Int64), .long (9 : Int64)]) (st := []) O dX10_weight_18 ci_X10_in ml_X10_108 ms_X10_in ⟨rfl, rfl, (by decide), (by decide)⟩ rfl (Nat.le_of_ble_eq_true rfl) rfl (mX10_in (h4.1 g5)) (k_I (fun r6 X7 Y8 h9 => ?_))
    refine v_if_ne (tgt := 28) O dX10_weight_21 (by decide) (fun g10 => ?_) (fun g10 => ?_)
    · refine v_aload_n O dX10_weight_28 rfl 0 rfl ?_
      refine v_get O dX10_weight_29 fo_X10_28 sh_48 rfl rfl ?_
      refine v_iload_n O dX10_weight_32 rfl 1 rfl ?_
      refine v_iald O dX10_weight_33 sh_55 (h9.1 g10).1 ?_
      refine v_topi (fun w11 hw12 => ?_)
      refine v_istore_n (lv' := [(3, .int w11), (0, .ref 48), (1, .int p0), (2, .int p1)]) O dX10_weight_34 rfl (by decide) rfl ?_
      refine v_aload_n O dX10_weight_35 rfl 1 rfl ?_
      refine v_get O dX10_weight_36 fo_X10_28 sh_48 rfl rfl ?_
      refine v_iload_n O dX10_weight_39 rfl 2 rfl ?_
      refine v_iload_n O dX10_weight_40 rfl 3 rfl ?_
      refine v_iast O dX10_weight_41 sh_55 ((h9.1 g10).2 w11 hw12).1 ?_
      refine v_iload_n O dX10_weight_42 rfl 0 rfl ?_
      exact v_iret O r dX10_weight_43 ⟨_, rfl, ((h9.1 g10).2 w11 hw12).2⟩
    · refine v_sipush O dX10_weight_24 ks_m1002 ?_
      exact v_iret O r dX10_weight_27 ⟨_, rfl, (h9.2 g10)⟩
  · refine v_sipush O dX10_weight_8 ks_m1001 ?_
    exact v_iret O r dX10_weight_11 ⟨_, rfl, (h4.2 g5)⟩
set_option maxRecDepth 100000 in
theorem mX10_weight {Γ : Cxt} {p0 : Int32} {p1 : Int32} {X : XT} {Y : YT} {Q : Int32 → XT → YT → Prop} (h : PX10_weight p0 p1 X Y Q) : MT Γ yX10_weight (.code yX10_weight cX10_weight 4 (some .int) :: wl) { frames := 2, cells := 0, slots := 0, locals := 46 } [.ref 48, .int p0, .int p1] X Y (qI Q) :=
  mt_of (by decide) (Nat.le_of_ble_eq_true rfl) (fun Γ _ O r => kX10_weight_s O r  (h ))
theorem dX10_never_0 : decode cX10_never 0 = .ok (.aload_n 0, 1) := by decide +kernel
theorem dX10_never_1 : decode cX10_never 1 = .ok (.iload_n 1, 1) := by decide +kernel
theorem dX10_never_2 : decode cX10_never 2 = .ok (.invokevirtual 136, 3) := by decide +kernel
theorem dX10_never_5 : decode cX10_never 5 = .ok (.ifCond .ne 16, 3) := by decide +kernel
theorem dX10_never_8 : decode cX10_never 8 = .ok (.aload_n 0, 1) := by decide +kernel
theorem dX10_never_9 : decode cX10_never 9 = .ok (.iload_n 2, 1) := by decide +kernel
theorem dX10_never_10 : decode cX10_never 10 = .ok (.invokevirtual 136, 3) := by decide +kernel
theorem dX10_never_13 : decode cX10_never 13 = .ok (.ifCond .ne 8, 3) := by decide +kernel
theorem dX10_never_16 : decode cX10_never 16 = .ok (.iload_n 1, 1) := by decide +kernel
theorem dX10_never_17 : decode cX10_never 17 = .ok (.iload_n 2, 1) := by decide +kernel
theorem dX10_never_18 : decode cX10_never 18 = .ok (.if_icmp .ne 7, 3) := by decide +kernel
theorem dX10_never_21 : decode cX10_never 21 = .ok (.sipush (-1001), 3) := by decide +kernel
theorem dX10_never_24 : decode cX10_never 24 = .ok (.ireturn, 1) := by decide +kernel
theorem dX10_never_25 : decode cX10_never 25 = .ok (.aload_n 0, 1) := by decide +kernel
theorem dX10_never_26 : decode cX10_never 26 = .ok (.getfield 31, 3) := by decide +kernel
theorem dX10_never_29 : decode cX10_never 29 = .ok (.iload_n 1, 1) := by decide +kernel
theorem dX10_never_30 : decode cX10_never 30 = .ok (.iaload, 1) := by decide +kernel
theorem dX10_never_31 : decode cX10_never 31 = .ok (.iload_n 2, 1) := by decide +kernel
theorem dX10_never_32 : decode cX10_never 32 = .ok (.ishr, 1) := by decide +kernel
theorem dX10_never_33 : decode cX10_never 33 = .ok (.iconst 1, 1) := by decide +kernel
theorem dX10_never_34 : decode cX10_never 34 = .ok (.iand, 1) := by decide +kernel
theorem dX10_never_35 : decode cX10_never 35 = .ok (.istore 4, 2) := by decide +kernel
theorem dX10_never_37 : decode cX10_never 37 = .ok (.aload_n 0, 1) := by decide +kernel
theorem dX10_never_38 : decode cX10_never 38 = .ok (.getfield 31, 3) := by decide +kernel
theorem dX10_never_41 : decode cX10_never 41 = .ok (.iload_n 1, 1) := by decide +kernel
theorem dX10_never_42 : decode cX10_never 42 = .ok (.iload_n 3, 1) := by decide +kernel
theorem dX10_never_43 : decode cX10_never 43 = .ok (.ifCond .eq 16, 3) := by decide +kernel
theorem dX10_never_46 : decode cX10_never 46 = .ok (.aload_n 0, 1) := by decide +kernel
theorem dX10_never_47 : decode cX10_never 47 = .ok (.getfield 31, 3) := by decide +kernel
theorem dX10_never_50 : decode cX10_never 50 = .ok (.iload_n 1, 1) := by decide +kernel
theorem dX10_never_51 : decode cX10_never 51 = .ok (.iaload, 1) := by decide +kernel
theorem dX10_never_52 : decode cX10_never 52 = .ok (.iconst 1, 1) := by decide +kernel
theorem dX10_never_53 : decode cX10_never 53 = .ok (.iload_n 2, 1) := by decide +kernel
theorem dX10_never_54 : decode cX10_never 54 = .ok (.ishl, 1) := by decide +kernel
theorem dX10_never_55 : decode cX10_never 55 = .ok (.ior, 1) := by decide +kernel
theorem dX10_never_56 : decode cX10_never 56 = .ok (.goto 15, 3) := by decide +kernel
theorem dX10_never_59 : decode cX10_never 59 = .ok (.aload_n 0, 1) := by decide +kernel
theorem dX10_never_60 : decode cX10_never 60 = .ok (.getfield 31, 3) := by decide +kernel
theorem dX10_never_63 : decode cX10_never 63 = .ok (.iload_n 1, 1) := by decide +kernel
theorem dX10_never_64 : decode cX10_never 64 = .ok (.iaload, 1) := by decide +kernel
theorem dX10_never_65 : decode cX10_never 65 = .ok (.iconst 1, 1) := by decide +kernel
theorem dX10_never_66 : decode cX10_never 66 = .ok (.iload_n 2, 1) := by decide +kernel
theorem dX10_never_67 : decode cX10_never 67 = .ok (.ishl, 1) := by decide +kernel
theorem dX10_never_68 : decode cX10_never 68 = .ok (.iconst (-1), 1) := by decide +kernel
theorem dX10_never_69 : decode cX10_never 69 = .ok (.ixor, 1) := by decide +kernel
theorem dX10_never_70 : decode cX10_never 70 = .ok (.iand, 1) := by decide +kernel
theorem dX10_never_71 : decode cX10_never 71 = .ok (.iastore, 1) := by decide +kernel
theorem dX10_never_72 : decode cX10_never 72 = .ok (.aload_n 0, 1) := by decide +kernel
theorem dX10_never_73 : decode cX10_never 73 = .ok (.getfield 31, 3) := by decide +kernel
theorem dX10_never_76 : decode cX10_never 76 = .ok (.iload_n 2, 1) := by decide +kernel
theorem dX10_never_77 : decode cX10_never 77 = .ok (.iload_n 3, 1) := by decide +kernel
theorem dX10_never_78 : decode cX10_never 78 = .ok (.ifCond .eq 16, 3) := by decide +kernel
theorem dX10_never_81 : decode cX10_never 81 = .ok (.aload_n 0, 1) := by decide +kernel
theorem dX10_never_82 : decode cX10_never 82 = .ok (.getfield 31, 3) := by decide +kernel
theorem dX10_never_85 : decode cX10_never 85 = .ok (.iload_n 2, 1) := by decide +kernel
theorem dX10_never_86 : decode cX10_never 86 = .ok (.iaload, 1) := by decide +kernel
theorem dX10_never_87 : decode cX10_never 87 = .ok (.iconst 1, 1) := by decide +kernel
theorem dX10_never_88 : decode cX10_never 88 = .ok (.iload_n 1, 1) := by decide +kernel
theorem dX10_never_89 : decode cX10_never 89 = .ok (.ishl, 1) := by decide +kernel
theorem dX10_never_90 : decode cX10_never 90 = .ok (.ior, 1) := by decide +kernel
theorem dX10_never_91 : decode cX10_never 91 = .ok (.goto 15, 3) := by decide +kernel
theorem dX10_never_94 : decode cX10_never 94 = .ok (.aload_n 0, 1) := by decide +kernel
theorem dX10_never_95 : decode cX10_never 95 = .ok (.getfield 31, 3) := by decide +kernel
theorem dX10_never_98 : decode cX10_never 98 = .ok (.iload_n 2, 1) := by decide +kernel
theorem dX10_never_99 : decode cX10_never 99 = .ok (.iaload, 1) := by decide +kernel
theorem dX10_never_100 : decode cX10_never 100 = .ok (.iconst 1, 1) := by decide +kernel
theorem dX10_never_101 : decode cX10_never 101 = .ok (.iload_n 1, 1) := by decide +kernel
theorem dX10_never_102 : decode cX10_never 102 = .ok (.ishl, 1) := by decide +kernel
theorem dX10_never_103 : decode cX10_never 103 = .ok (.iconst (-1), 1) := by decide +kernel
theorem dX10_never_104 : decode cX10_never 104 = .ok (.ixor, 1) := by decide +kernel
theorem dX10_never_105 : decode cX10_never 105 = .ok (.iand, 1) := by decide +kernel
theorem dX10_never_106 : decode cX10_never 106 = .ok (.iastore, 1) := by decide +kernel
theorem dX10_never_107 : decode cX10_never 107 = .ok (.iload 4, 2) := by decide +kernel
theorem dX10_never_109 : decode cX10_never 109 = .ok (.ireturn, 1) := by decide +kernel
def BX10_never_71 (I71 : Int32 → Int32 → Int32 → Int32 → Int32 → Int32 → XT → YT → Prop) (Q : Int32 → XT → YT → Prop) (a1 : Int32) (a2 : Int32) (a3 : Int32) (a4 : Int32) (t0 : Int32) (t1 : Int32) (X : XT) (Y : YT) : Prop :=
  vp_in t1 10 ∧ ((a3 = 0 → vp_in a2 10 ∧ vp_in a2 10 ∧ ∀ X2 : XT, X2 = sX (sX X 56 t1.toNatClampNeg t0) 56 a2.toNatClampNeg (((sX X 56 t1.toNatClampNeg t0) 56 a2.toNatClampNeg) &&& ((1 <<< (a1 &&& 31)) ^^^ (-1))) → Q a4 X2 Y) ∧ (¬ a3 = 0 → vp_in a2 10 ∧ vp_in a2 10 ∧ ∀ X4 : XT, X4 = sX (sX X 56 t1.toNatClampNeg t0) 56 a2.toNatClampNeg (((sX X 56 t1.toNatClampNeg t0) 56 a2.toNatClampNeg) ||| (1 <<< (a1 &&& 31))) → Q a4 X4 Y))
def BX10_never_s (I71 : Int32 → Int32 → Int32 → Int32 → Int32 → Int32 → XT → YT → Prop) (Q : Int32 → XT → YT → Prop) (p0 : Int32) (p1 : Int32) (p2 : Int32) (X : XT) (Y : YT) : Prop :=
  PX10_noName p0 X Y (fun r1 X2 Y3 => ((¬ r1 = 0 → Q (-1001) X2 Y3) ∧ (r1 = 0 → PX10_noName p1 X2 Y3 (fun r6 X7 Y8 => ((¬ r6 = 0 → Q (-1001) X7 Y8) ∧ (r6 = 0 → ((¬ p0 = p1 → vp_in p0 10 ∧ ∀ w12 : Int32, w12 = (((X7 56 p0.toNatClampNeg) >>> (p1 &&& 31)) &&& 1) → ((p2 = 0 → vp_in p0 10 ∧ I71 p0 p1 p2 w12 ((X7 56 p0.toNatClampNeg) &&& ((1 <<< (p1 &&& 31)) ^^^ (-1))) p0 X7 Y8) ∧ (¬ p2 = 0 → vp_in p0 10 ∧ I71 p0 p1 p2 w12 ((X7 56 p0.toNatClampNeg) ||| (1 <<< (p1 &&& 31))) p0 X7 Y8))) ∧ (p0 = p1 → Q (-1001) X7 Y8))))))))
def PX10_never (p0 : Int32) (p1 : Int32) (p2 : Int32) (X : XT) (Y : YT) (Q : Int32 → XT → YT → Prop) : Prop := ∀ (I71 : Int32 → Int32 → Int32 → Int32 → Int32 → Int32 → XT → YT → Prop), (∀ (a1 : Int32) (a2 : Int32) (a3 : Int32) (a4 : Int32) (t0 : Int32) (t1 : Int32) (X : XT) (Y : YT), BX10_never_71 I71 Q a1 a2 a3 a4 t0 t1 X Y → I71 a1 a2 a3 a4 t0 t1 X Y) → BX10_never_s I71 Q p0 p1 p2 X Y
set_option maxHeartbeats 4000000 in
set_option maxRecDepth 100000 in
theorem kX10_never_71 {Γ : Cxt} {Q : Int32 → XT → YT → Prop} (O : Ok Γ RX10 cX10_never 5 { frames := 2, cells := 0, slots := 0, locals := 46 }) (r : Ret Γ (some .int) (qI Q)) {I71 : Int32 → Int32 → Int32 → Int32 → Int32 → Int32 → XT → YT → Prop} (e71 : ∀ (a1 : Int32) (a2 : Int32) (a3 : Int32) (a4 : Int32) (t0 : Int32) (t1 : Int32) (X : XT) (Y : YT), I71 a1 a2 a3 a4 t0 t1 X Y → V Γ 71 [(0, .ref 48), (1, .int a1), (2, .int a2), (3, .int a3), (4, .int a4)] [.int t0, .int t1, .ref 56] X Y) {a1 : Int32} {a2 : Int32} {a3 : Int32} {a4 : Int32} {t0 : Int32} {t1 : Int32} {X : XT} {Y : YT} (h : BX10_never_71 I71 Q a1 a2 a3 a4 t0 t1 X Y) : V Γ 71 [(0, .ref 48), (1, .int a1), (2, .int a2), (3, .int a3), (4, .int a4)] [.int t0, .int t1, .ref 56] X Y := by
  refine v_iast O dX10_never_71 sh_56 h.1 ?_
  refine v_aload_n O dX10_never_72 rfl 0 rfl ?_
  refine v_get O dX10_never_73 fo_X10_31 sh_48 rfl rfl ?_
  refine v_iload_n O dX10_never_76 rfl 2 rfl ?_
  refine v_iload_n O dX10_never_77 rfl 3 rfl ?_
  refine v_if_eq (tgt := 94) O dX10_never_78 (by decide) (fun g1 => ?_) (fun g1 => ?_)
  · refine v_aload_n O dX10_never_94 rfl 0 rfl ?_
    refine v_get O dX10_never_95 fo_X10_31 sh_48 rfl rfl ?_
    refine v_iload_n O dX10_never_98 rfl 2 rfl ?_
    refine v_iald O dX10_never_99 sh_56 (h.2.1 g1).1 ?_
    refine v_iconst O dX10_never_100 kc_1 ?_
    refine v_iload_n O dX10_never_101 rfl 1 rfl ?_
    refine v_ishl O dX10_never_102 ?_
    refine v_iconst O dX10_never_103 kc_m1 ?_
    refine v_ixor O dX10_never_104 ?_
    refine v_iand O dX10_never_105 ?_
    refine v_iast O dX10_never_106 sh_56 (h.2.1 g1).2.1 ?_
    refine v_nmX (fun X2 hX3 => ?_)
    refine v_iload O dX10_never_107 4 rfl ?_
    exact v_iret O r dX10_never_109 ⟨_, rfl, ((h.2.1 g1).2.2 X2 hX3)⟩
  · refine v_aload_n O dX10_never_81 rfl 0 rfl ?_
    refine v_get O dX10_never_82 fo_X10_31 sh_48 rfl rfl ?_
    refine v_iload_n O dX10_never_85 rfl 2 rfl ?_
    refine v_iald O dX10_never_86 sh_56 (h.2.2 g1).1 ?_
    refine v_iconst O dX10_never_87 kc_1 ?_
    refine v_iload_n O dX10_never_88 rfl 1 rfl ?_
    refine v_ishl O dX10_never_89 ?_
    refine v_ior O dX10_never_90 ?_
    refine v_goto O dX10_never_91 (tgt := 106) (by decide) ?_
    refine v_iast O dX10_never_106 sh_56 (h.2.2 g1).2.1 ?_
    refine v_nmX (fun X4 hX5 => ?_)
    refine v_iload O dX10_never_107 4 rfl ?_
    exact v_iret O r dX10_never_109 ⟨_, rfl, ((h.2.2 g1).2.2 X4 hX5)⟩
set_option maxHeartbeats 4000000 in
set_option maxRecDepth 100000 in
theorem kX10_never_s {Γ : Cxt} {Q : Int32 → XT → YT → Prop} (O : Ok Γ RX10 cX10_never 5 { frames := 2, cells := 0, slots := 0, locals := 46 }) (r : Ret Γ (some .int) (qI Q)) {I71 : Int32 → Int32 → Int32 → Int32 → Int32 → Int32 → XT → YT → Prop} (e71 : ∀ (a1 : Int32) (a2 : Int32) (a3 : Int32) (a4 : Int32) (t0 : Int32) (t1 : Int32) (X : XT) (Y : YT), I71 a1 a2 a3 a4 t0 t1 X Y → V Γ 71 [(0, .ref 48), (1, .int a1), (2, .int a2), (3, .int a3), (4, .int a4)] [.int t0, .int t1, .ref 56] X Y) {p0 : Int32} {p1 : Int32} {p2 : Int32} {X : XT} {Y : YT} (h : BX10_never_s I71 Q p0 p1 p2 X Y) : V Γ 0 [(0, .ref 48), (1, .int p0), (2, .int p1), (3, .int p2)] [] X Y := by
  refine v_aload_n O dX10_never_0 rfl 0 rfl ?_
  refine v_iload_n O dX10_never_1 rfl 1 rfl ?_
  refine v_callV (rm' := { frames := 1, cells := 0, slots := 0, locals := 25 }) (As := [.int p0]) (st := []) O dX10_never_2 ci_X10_noName ml_X10_136 mi_X10_noName sh_48 rfl ⟨rfl, rfl, (by decide), (by decide)⟩ rfl (Nat.le_of_ble_eq_true rfl) rfl (mX10_noName h) (k_I (fun r1 X2 Y3 h4 => ?_))
  refine v_if_ne (tgt := 21) O dX10_never_5 (by decide) (fun g5 => ?_) (fun g5 => ?_)
  · refine v_sipush O dX10_never_21 ks_m1001 ?_
    exact v_iret O r dX10_never_24 ⟨_, rfl, (h4.1 g5)⟩
  · refine v_aload_n O dX10_never_8 rfl 0 rfl ?_
    refine v_iload_n O dX10_never_9 rfl 2 rfl ?_
    refine v_callV (rm' := { frames := 1, cells := 0, slots := 0, locals := 25 }) (As := [.int p1]) (st := []) O dX10_never_10 ci_X10_noName ml_X10_136 mi_X10_noName sh_48 rfl ⟨rfl, rfl, (by decide), (by decide)⟩ rfl (Nat.le_of_ble_eq_true rfl) rfl (mX10_noName (h4.2 g5)) (k_I (fun r6 X7 Y8 h9 => ?_))
    refine v_if_ne (tgt := 21) O dX10_never_13 (by decide) (fun g10 => ?_) (fun g10 => ?_)
    · refine v_sipush O dX10_never_21 ks_m1001 ?_
      exact v_iret O r dX10_never_24 ⟨_, rfl, (h9.1 g10)⟩
    · refine v_iload_n O dX10_never_16 rfl 1 rfl ?_
      refine v_iload_n O dX10_never_17 rfl 2 rfl ?_
      refine v_icmp_ne (tgt := 25) O dX10_never_18 (by decide) (fun g11 => ?_) (fun g11 => ?_)
      · refine v_aload_n O dX10_never_25 rfl 0 rfl ?_
        refine v_get O dX10_never_26 fo_X10_31 sh_48 rfl rfl ?_
        refine v_iload_n O dX10_never_29 rfl 1 rfl ?_
        refine v_iald O dX10_never_30 sh_56 ((h9.2 g10).1 g11).1 ?_
        refine v_iload_n O dX10_never_31 rfl 2 rfl ?_
        refine v_ishr O dX10_never_32 ?_
        refine v_iconst O dX10_never_33 kc_1 ?_
        refine v_iand O dX10_never_34 ?_
        refine v_topi (fun w12 hw13 => ?_)
        refine v_istore (lv' := [(4, .int w12), (0, .ref 48), (1, .int p0), (2, .int p1), (3, .int p2)]) O dX10_never_35 (by decide) rfl ?_
        refine v_aload_n O dX10_never_37 rfl 1 rfl ?_
        refine v_get O dX10_never_38 fo_X10_31 sh_48 rfl rfl ?_
        refine v_iload_n O dX10_never_41 rfl 2 rfl ?_
        refine v_iload_n O dX10_never_42 rfl 4 rfl ?_
        refine v_if_eq (tgt := 59) O dX10_never_43 (by decide) (fun g14 => ?_) (fun g14 => ?_)
        · refine v_aload_n O dX10_never_59 rfl 1 rfl ?_
          refine v_get O dX10_never_60 fo_X10_31 sh_48 rfl rfl ?_
          refine v_iload_n O dX10_never_63 rfl 2 rfl ?_
          refine v_iald O dX10_never_64 sh_56 ((((h9.2 g10).1 g11).2 w12 hw13).1 g14).1 ?_
          refine v_iconst O dX10_never_65 kc_1 ?_
          refine v_iload_n O dX10_never_66 rfl 3 rfl ?_
          refine v_ishl O dX10_never_67 ?_
          refine v_iconst O dX10_never_68 kc_m1 ?_
          refine v_ixor O dX10_never_69 ?_
          refine v_iand O dX10_never_70 ?_
          exact v_loc [1, 2, 3, 4, 0] rfl (e71 p0 p1 p2 w12 ((X7 56 p0.toNatClampNeg) &&& ((1 <<< (p1 &&& 31)) ^^^ (-1))) p0 X7 Y8 ((((h9.2 g10).1 g11).2 w12 hw13).1 g14).2)
        · refine v_aload_n O dX10_never_46 rfl 1 rfl ?_
          refine v_get O dX10_never_47 fo_X10_31 sh_48 rfl rfl ?_
          refine v_iload_n O dX10_never_50 rfl 2 rfl ?_
          refine v_iald O dX10_never_51 sh_56 ((((h9.2 g10).1 g11).2 w12 hw13).2 g14).1 ?_
          refine v_iconst O dX10_never_52 kc_1 ?_
          refine v_iload_n O dX10_never_53 rfl 3 rfl ?_
          refine v_ishl O dX10_never_54 ?_
          refine v_ior O dX10_never_55 ?_
          refine v_goto O dX10_never_56 (tgt := 71) (by decide) ?_
          exact v_loc [1, 2, 3, 4, 0] rfl (e71 p0 p1 p2 w12 ((X7 56 p0.toNatClampNeg) ||| (1 <<< (p1 &&& 31))) p0 X7 Y8 ((((h9.2 g10).1 g11).2 w12 hw13).2 g14).2)
      · refine v_sipush O dX10_never_21 ks_m1001 ?_
        exact v_iret O r dX10_never_24 ⟨_, rfl, ((h9.2 g10).2 g11)⟩
set_option maxRecDepth 100000 in
theorem mX10_never {Γ : Cxt} {p0 : Int32} {p1 : Int32} {p2 : Int32} {X : XT} {Y : YT} {Q : Int32 → XT → YT → Prop} (h : PX10_never p0 p1 p2 X Y Q) : MT Γ yX10_never (.code yX10_never cX10_never 5 (some .int) :: wl) { frames := 2, cells := 0, slots := 0, locals := 46 } [.ref 48, .int p0, .int p1, .int p2] X Y (qI Q) :=
  mt_of (by decide) (Nat.le_of_ble_eq_true rfl) (fun Γ _ O r => kX10_never_s O r (fun _ _ _ _ _ _ _ _ g => g) (h (fun a1 a2 a3 a4 t0 t1 X Y => V Γ 71 [(0, .ref 48), (1, .int a1), (2, .int a2), (3, .int a3), (4, .int a4)] [.int t0, .int t1, .ref 56] X Y) (fun _ _ _ _ _ _ _ _ g => kX10_never_71 O r (fun _ _ _ _ _ _ _ _ g => g) g)))
theorem dX10_slack_0 : decode cX10_slack 0 = .ok (.iload_n 1, 1) := by decide +kernel
theorem dX10_slack_1 : decode cX10_slack 1 = .ok (.i2l, 1) := by decide +kernel
theorem dX10_slack_2 : decode cX10_slack 2 = .ok (.lconst 0, 1) := by decide +kernel
theorem dX10_slack_3 : decode cX10_slack 3 = .ok (.ldc2_w 144, 3) := by decide +kernel
theorem dX10_slack_6 : decode cX10_slack 6 = .ok (.invokestatic 108, 3) := by decide +kernel
theorem dX10_slack_9 : decode cX10_slack 9 = .ok (.ifCond .ne 7, 3) := by decide +kernel
theorem dX10_slack_12 : decode cX10_slack 12 = .ok (.sipush (-1002), 3) := by decide +kernel
theorem dX10_slack_15 : decode cX10_slack 15 = .ok (.ireturn, 1) := by decide +kernel
theorem dX10_slack_16 : decode cX10_slack 16 = .ok (.aload_n 0, 1) := by decide +kernel
theorem dX10_slack_17 : decode cX10_slack 17 = .ok (.getfield 146, 3) := by decide +kernel
theorem dX10_slack_20 : decode cX10_slack 20 = .ok (.istore_n 2, 1) := by decide +kernel
theorem dX10_slack_21 : decode cX10_slack 21 = .ok (.aload_n 0, 1) := by decide +kernel
theorem dX10_slack_22 : decode cX10_slack 22 = .ok (.iload_n 1, 1) := by decide +kernel
theorem dX10_slack_23 : decode cX10_slack 23 = .ok (.putfield 146, 3) := by decide +kernel
theorem dX10_slack_26 : decode cX10_slack 26 = .ok (.iload_n 2, 1) := by decide +kernel
theorem dX10_slack_27 : decode cX10_slack 27 = .ok (.ireturn, 1) := by decide +kernel
def BX10_slack_s (Q : Int32 → XT → YT → Prop) (p0 : Int32) (X : XT) (Y : YT) : Prop :=
  PX10_in (p0.toInt64) (0 : Int64) (9 : Int64) X Y (fun r1 X2 Y3 => ((¬ r1 = 0 → ∀ w6 : Int32, w6 = (X2 48 9) → Q w6 (sX X2 48 9 p0) Y3) ∧ (r1 = 0 → Q (-1002) X2 Y3)))
def PX10_slack (p0 : Int32) (X : XT) (Y : YT) (Q : Int32 → XT → YT → Prop) : Prop :=  BX10_slack_s Q p0 X Y
set_option maxHeartbeats 4000000 in
set_option maxRecDepth 100000 in
theorem kX10_slack_s {Γ : Cxt} {Q : Int32 → XT → YT → Prop} (O : Ok Γ RX10 cX10_slack 3 { frames := 1, cells := 0, slots := 0, locals := 25 }) (r : Ret Γ (some .int) (qI Q)) {p0 : Int32} {X : XT} {Y : YT} (h : BX10_slack_s Q p0 X Y) : V Γ 0 [(0, .ref 48), (1, .int p0)] [] X Y := by
  refine v_iload_n O dX10_slack_0 rfl 1 rfl ?_
  refine v_i2l O dX10_slack_1 ?_
  refine v_lconst O dX10_slack_2 (v := 0) (by decide) ?_
  refine v_ldc2 O dX10_slack_3 kl_X10_144 ?_
  refine v_callS (rm' := { frames := 0, cells := 0, slots := 0, locals := 0 }) (As := [.long (p0.toInt64), .long (0 : Int64), .long (9 : Int64)]) (st := []) O dX10_slack_6 ci_X10_in ml_X10_108 ms_X10_in ⟨rfl, rfl, (by decide), (by decide)⟩ rfl (Nat.le_of_ble_eq_true rfl) rfl (mX10_in h) (k_I (fun r1 X2 Y3 h4 => ?_))
  refine v_if_ne (tgt := 16) O dX10_slack_9 (by decide) (fun g5 => ?_) (fun g5 => ?_)
  · refine v_aload_n O dX10_slack_16 rfl 0 rfl ?_
    refine v_get O dX10_slack_17 fo_X10_146 sh_48 rfl rfl ?_
    refine v_topi (fun w6 hw7 => ?_)
    refine v_istore_n (lv' := [(2, .int w6), (0, .ref 48), (1, .int p0)]) O dX10_slack_20 rfl (by decide) rfl ?_
    refine v_aload_n O dX10_slack_21 rfl 1 rfl ?_
    refine v_iload_n O dX10_slack_22 rfl 2 rfl ?_
    refine v_putI O dX10_slack_23 fo_X10_146 fp_10_9 sh_48 rfl rfl rfl ?_
    refine v_iload_n O dX10_slack_26 rfl 0 rfl ?_
    exact v_iret O r dX10_slack_27 ⟨_, rfl, ((h4.1 g5) w6 hw7)⟩
  · refine v_sipush O dX10_slack_12 ks_m1002 ?_
    exact v_iret O r dX10_slack_15 ⟨_, rfl, (h4.2 g5)⟩
set_option maxRecDepth 100000 in
theorem mX10_slack {Γ : Cxt} {p0 : Int32} {X : XT} {Y : YT} {Q : Int32 → XT → YT → Prop} (h : PX10_slack p0 X Y Q) : MT Γ yX10_slack (.code yX10_slack cX10_slack 3 (some .int) :: wl) { frames := 1, cells := 0, slots := 0, locals := 25 } [.ref 48, .int p0] X Y (qI Q) :=
  mt_of (by decide) (Nat.le_of_ble_eq_true rfl) (fun Γ _ O r => kX10_slack_s O r  (h ))
theorem dX10_widthOf_0 : decode cX10_widthOf 0 = .ok (.iconst 0, 1) := by decide +kernel
theorem dX10_widthOf_1 : decode cX10_widthOf 1 = .ok (.istore_n 3, 1) := by decide +kernel
theorem dX10_widthOf_2 : decode cX10_widthOf 2 = .ok (.iconst 0, 1) := by decide +kernel
theorem dX10_widthOf_3 : decode cX10_widthOf 3 = .ok (.istore 4, 2) := by decide +kernel
theorem dX10_widthOf_5 : decode cX10_widthOf 5 = .ok (.iload 4, 2) := by decide +kernel
theorem dX10_widthOf_7 : decode cX10_widthOf 7 = .ok (.aload_n 0, 1) := by decide +kernel
theorem dX10_widthOf_8 : decode cX10_widthOf 8 = .ok (.getfield 16, 3) := by decide +kernel
theorem dX10_widthOf_11 : decode cX10_widthOf 11 = .ok (.iload_n 1, 1) := by decide +kernel
theorem dX10_widthOf_12 : decode cX10_widthOf 12 = .ok (.iaload, 1) := by decide +kernel
theorem dX10_widthOf_13 : decode cX10_widthOf 13 = .ok (.if_icmp .ge 34, 3) := by decide +kernel
theorem dX10_widthOf_16 : decode cX10_widthOf 16 = .ok (.iload_n 3, 1) := by decide +kernel
theorem dX10_widthOf_17 : decode cX10_widthOf 17 = .ok (.aload_n 0, 1) := by decide +kernel
theorem dX10_widthOf_18 : decode cX10_widthOf 18 = .ok (.getfield 7, 3) := by decide +kernel
theorem dX10_widthOf_21 : decode cX10_widthOf 21 = .ok (.bipush 26, 2) := by decide +kernel
theorem dX10_widthOf_23 : decode cX10_widthOf 23 = .ok (.iload_n 2, 1) := by decide +kernel
theorem dX10_widthOf_24 : decode cX10_widthOf 24 = .ok (.imul, 1) := by decide +kernel
theorem dX10_widthOf_25 : decode cX10_widthOf 25 = .ok (.aload_n 0, 1) := by decide +kernel
theorem dX10_widthOf_26 : decode cX10_widthOf 26 = .ok (.getfield 13, 3) := by decide +kernel
theorem dX10_widthOf_29 : decode cX10_widthOf 29 = .ok (.bipush 12, 2) := by decide +kernel
theorem dX10_widthOf_31 : decode cX10_widthOf 31 = .ok (.iload_n 1, 1) := by decide +kernel
theorem dX10_widthOf_32 : decode cX10_widthOf 32 = .ok (.imul, 1) := by decide +kernel
theorem dX10_widthOf_33 : decode cX10_widthOf 33 = .ok (.iload 4, 2) := by decide +kernel
theorem dX10_widthOf_35 : decode cX10_widthOf 35 = .ok (.iadd, 1) := by decide +kernel
theorem dX10_widthOf_36 : decode cX10_widthOf 36 = .ok (.iaload, 1) := by decide +kernel
theorem dX10_widthOf_37 : decode cX10_widthOf 37 = .ok (.iadd, 1) := by decide +kernel
theorem dX10_widthOf_38 : decode cX10_widthOf 38 = .ok (.iaload, 1) := by decide +kernel
theorem dX10_widthOf_39 : decode cX10_widthOf 39 = .ok (.iadd, 1) := by decide +kernel
theorem dX10_widthOf_40 : decode cX10_widthOf 40 = .ok (.istore_n 3, 1) := by decide +kernel
theorem dX10_widthOf_41 : decode cX10_widthOf 41 = .ok (.iinc 4 1, 3) := by decide +kernel
theorem dX10_widthOf_44 : decode cX10_widthOf 44 = .ok (.goto (-39), 3) := by decide +kernel
theorem dX10_widthOf_47 : decode cX10_widthOf 47 = .ok (.iload_n 3, 1) := by decide +kernel
theorem dX10_widthOf_48 : decode cX10_widthOf 48 = .ok (.ireturn, 1) := by decide +kernel
def BX10_widthOf_5 (I5 : Int32 → Int32 → Int32 → Int32 → XT → YT → Prop) (Q : Int32 → XT → YT → Prop) (a1 : Int32) (a2 : Int32) (a3 : Int32) (a4 : Int32) (X : XT) (Y : YT) : Prop :=
  vp_in a1 10 ∧ (((X 51 a1.toNatClampNeg) ≤ a4 → Q a3 X Y) ∧ (¬ (X 51 a1.toNatClampNeg) ≤ a4 → vp_in ((12 * a1) + a4) 120 ∧ vp_in ((26 * a2) + (X 50 ((12 * a1) + a4).toNatClampNeg)) 52 ∧ ∀ w2 : Int32, w2 = (a3 + (X 49 ((26 * a2) + (X 50 ((12 * a1) + a4).toNatClampNeg)).toNatClampNeg)) → ∀ w4 : Int32, w4 = a4 + 1 → I5 a1 a2 w2 w4 X Y))
def BX10_widthOf_s (I5 : Int32 → Int32 → Int32 → Int32 → XT → YT → Prop) (Q : Int32 → XT → YT → Prop) (p0 : Int32) (p1 : Int32) (X : XT) (Y : YT) : Prop :=
  I5 p0 p1 0 0 X Y
def PX10_widthOf (p0 : Int32) (p1 : Int32) (X : XT) (Y : YT) (Q : Int32 → XT → YT → Prop) : Prop := ∀ (I5 : Int32 → Int32 → Int32 → Int32 → XT → YT → Prop), (∀ (a1 : Int32) (a2 : Int32) (a3 : Int32) (a4 : Int32) (X : XT) (Y : YT), BX10_widthOf_5 I5 Q a1 a2 a3 a4 X Y → I5 a1 a2 a3 a4 X Y) → BX10_widthOf_s I5 Q p0 p1 X Y
set_option maxHeartbeats 4000000 in
set_option maxRecDepth 100000 in
theorem kX10_widthOf_5 {Γ : Cxt} {Q : Int32 → XT → YT → Prop} (O : Ok Γ RX10 cX10_widthOf 5 { frames := 0, cells := 0, slots := 0, locals := 0 }) (r : Ret Γ (some .int) (qI Q)) {I5 : Int32 → Int32 → Int32 → Int32 → XT → YT → Prop} (e5 : ∀ (a1 : Int32) (a2 : Int32) (a3 : Int32) (a4 : Int32) (X : XT) (Y : YT), I5 a1 a2 a3 a4 X Y → V Γ 5 [(0, .ref 48), (1, .int a1), (2, .int a2), (3, .int a3), (4, .int a4)] [] X Y) {a1 : Int32} {a2 : Int32} {a3 : Int32} {a4 : Int32} {X : XT} {Y : YT} (h : BX10_widthOf_5 I5 Q a1 a2 a3 a4 X Y) : V Γ 5 [(0, .ref 48), (1, .int a1), (2, .int a2), (3, .int a3), (4, .int a4)] [] X Y := by
  refine v_iload O dX10_widthOf_5 4 rfl ?_
  refine v_aload_n O dX10_widthOf_7 rfl 0 rfl ?_
  refine v_get O dX10_widthOf_8 fo_X10_16 sh_48 rfl rfl ?_
  refine v_iload_n O dX10_widthOf_11 rfl 1 rfl ?_
  refine v_iald O dX10_widthOf_12 sh_51 h.1 ?_
  refine v_icmp_ge (tgt := 47) O dX10_widthOf_13 (by decide) (fun g1 => ?_) (fun g1 => ?_)
  · refine v_iload_n O dX10_widthOf_47 rfl 3 rfl ?_
    exact v_iret O r dX10_widthOf_48 ⟨_, rfl, (h.2.1 g1)⟩
  · refine v_iload_n O dX10_widthOf_16 rfl 3 rfl ?_
    refine v_aload_n O dX10_widthOf_17 rfl 0 rfl ?_
    refine v_get O dX10_widthOf_18 fo_X10_7 sh_48 rfl rfl ?_
    refine v_bipush O dX10_widthOf_21 kb_26 ?_
    refine v_iload_n O dX10_widthOf_23 rfl 2 rfl ?_
    refine v_imul O dX10_widthOf_24 ?_
    refine v_aload_n O dX10_widthOf_25 rfl 0 rfl ?_
    refine v_get O dX10_widthOf_26 fo_X10_13 sh_48 rfl rfl ?_
    refine v_bipush O dX10_widthOf_29 kb_12 ?_
    refine v_iload_n O dX10_widthOf_31 rfl 1 rfl ?_
    refine v_imul O dX10_widthOf_32 ?_
    refine v_iload O dX10_widthOf_33 4 rfl ?_
    refine v_iadd O dX10_widthOf_35 ?_
    refine v_iald O dX10_widthOf_36 sh_50 (h.2.2 g1).1 ?_
    refine v_iadd O dX10_widthOf_37 ?_
    refine v_iald O dX10_widthOf_38 sh_49 (h.2.2 g1).2.1 ?_
    refine v_iadd O dX10_widthOf_39 ?_
    refine v_topi (fun w2 hw3 => ?_)
    refine v_istore_n (lv' := [(3, .int w2), (0, .ref 48), (1, .int a1), (2, .int a2), (4, .int a4)]) O dX10_widthOf_40 rfl (by decide) rfl ?_
    obtain ⟨w4, hw5⟩ : ∃ y : Int32, y = a4 + 1 := ⟨_, rfl⟩
    refine v_iinc (v := w4) (j := 4) O dX10_widthOf_41 rfl (by rw [hw5]; exact congrArg _ kc_1) (by decide) (lv' := [(4, .int w4), (3, .int w2), (0, .ref 48), (1, .int a1), (2, .int a2)]) rfl ?_
    refine v_goto O dX10_widthOf_44 (tgt := 5) (by decide) ?_
    exact v_loc [2, 3, 4, 1, 0] rfl (e5 a1 a2 w2 w4 X Y (((h.2.2 g1).2.2 w2 hw3) w4 hw5))
set_option maxHeartbeats 4000000 in
set_option maxRecDepth 100000 in
theorem kX10_widthOf_s {Γ : Cxt} {Q : Int32 → XT → YT → Prop} (O : Ok Γ RX10 cX10_widthOf 5 { frames := 0, cells := 0, slots := 0, locals := 0 }) (r : Ret Γ (some .int) (qI Q)) {I5 : Int32 → Int32 → Int32 → Int32 → XT → YT → Prop} (e5 : ∀ (a1 : Int32) (a2 : Int32) (a3 : Int32) (a4 : Int32) (X : XT) (Y : YT), I5 a1 a2 a3 a4 X Y → V Γ 5 [(0, .ref 48), (1, .int a1), (2, .int a2), (3, .int a3), (4, .int a4)] [] X Y) {p0 : Int32} {p1 : Int32} {X : XT} {Y : YT} (h : BX10_widthOf_s I5 Q p0 p1 X Y) : V Γ 0 [(0, .ref 48), (1, .int p0), (2, .int p1)] [] X Y := by
  refine v_iconst O dX10_widthOf_0 kc_0 ?_
  refine v_istore_n (lv' := [(3, .int 0), (0, .ref 48), (1, .int p0), (2, .int p1)]) O dX10_widthOf_1 rfl (by decide) rfl ?_
  refine v_iconst O dX10_widthOf_2 kc_0 ?_
  refine v_istore (lv' := [(4, .int 0), (3, .int 0), (0, .ref 48), (1, .int p0), (2, .int p1)]) O dX10_widthOf_3 (by decide) rfl ?_
  exact v_loc [2, 3, 4, 1, 0] rfl (e5 p0 p1 0 0 X Y h)
set_option maxRecDepth 100000 in
theorem mX10_widthOf {Γ : Cxt} {p0 : Int32} {p1 : Int32} {X : XT} {Y : YT} {Q : Int32 → XT → YT → Prop} (h : PX10_widthOf p0 p1 X Y Q) : MT Γ yX10_widthOf (.code yX10_widthOf cX10_widthOf 5 (some .int) :: wl) { frames := 0, cells := 0, slots := 0, locals := 0 } [.ref 48, .int p0, .int p1] X Y (qI Q) :=
  mt_of (by decide) (Nat.le_of_ble_eq_true rfl) (fun Γ _ O r => kX10_widthOf_s O r (fun _ _ _ _ _ _ g => g) (h (fun a1 a2 a3 a4 X Y => V Γ 5 [(0, .ref 48), (1, .int a1), (2, .int a2), (3, .int a3), (4, .int a4)] [] X Y) (fun _ _ _ _ _ _ g => kX10_widthOf_5 O r (fun _ _ _ _ _ _ g => g) g)))
theorem dX10_told_0 : decode cX10_told 0 = .ok (.aload_n 0, 1) := by decide +kernel
theorem dX10_told_1 : decode cX10_told 1 = .ok (.iload_n 1, 1) := by decide +kernel
theorem dX10_told_2 : decode cX10_told 2 = .ok (.invokevirtual 136, 3) := by decide +kernel
theorem dX10_told_5 : decode cX10_told 5 = .ok (.ifCond .eq 7, 3) := by decide +kernel
theorem dX10_told_8 : decode cX10_told 8 = .ok (.sipush (-1001), 3) := by decide +kernel
theorem dX10_told_11 : decode cX10_told 11 = .ok (.ireturn, 1) := by decide +kernel
theorem dX10_told_12 : decode cX10_told 12 = .ok (.iload_n 2, 1) := by decide +kernel
theorem dX10_told_13 : decode cX10_told 13 = .ok (.tableswitch 85 0 6 #[43, 43, 50, 57, 64, 71, 78], 43) := by decide +kernel
theorem dX10_told_56 : decode cX10_told 56 = .ok (.aload_n 0, 1) := by decide +kernel
theorem dX10_told_57 : decode cX10_told 57 = .ok (.iload_n 1, 1) := by decide +kernel
theorem dX10_told_58 : decode cX10_told 58 = .ok (.iload_n 2, 1) := by decide +kernel
theorem dX10_told_59 : decode cX10_told 59 = .ok (.invokevirtual 149, 3) := by decide +kernel
theorem dX10_told_62 : decode cX10_told 62 = .ok (.ireturn, 1) := by decide +kernel
theorem dX10_told_63 : decode cX10_told 63 = .ok (.aload_n 0, 1) := by decide +kernel
theorem dX10_told_64 : decode cX10_told 64 = .ok (.getfield 19, 3) := by decide +kernel
theorem dX10_told_67 : decode cX10_told 67 = .ok (.iload_n 1, 1) := by decide +kernel
theorem dX10_told_68 : decode cX10_told 68 = .ok (.iaload, 1) := by decide +kernel
theorem dX10_told_69 : decode cX10_told 69 = .ok (.ireturn, 1) := by decide +kernel
theorem dX10_told_70 : decode cX10_told 70 = .ok (.aload_n 0, 1) := by decide +kernel
theorem dX10_told_71 : decode cX10_told 71 = .ok (.getfield 22, 3) := by decide +kernel
theorem dX10_told_74 : decode cX10_told 74 = .ok (.iload_n 1, 1) := by decide +kernel
theorem dX10_told_75 : decode cX10_told 75 = .ok (.iaload, 1) := by decide +kernel
theorem dX10_told_76 : decode cX10_told 76 = .ok (.ireturn, 1) := by decide +kernel
theorem dX10_told_77 : decode cX10_told 77 = .ok (.aload_n 0, 1) := by decide +kernel
theorem dX10_told_78 : decode cX10_told 78 = .ok (.getfield 25, 3) := by decide +kernel
theorem dX10_told_81 : decode cX10_told 81 = .ok (.iload_n 1, 1) := by decide +kernel
theorem dX10_told_82 : decode cX10_told 82 = .ok (.iaload, 1) := by decide +kernel
theorem dX10_told_83 : decode cX10_told 83 = .ok (.ireturn, 1) := by decide +kernel
theorem dX10_told_84 : decode cX10_told 84 = .ok (.aload_n 0, 1) := by decide +kernel
theorem dX10_told_85 : decode cX10_told 85 = .ok (.getfield 28, 3) := by decide +kernel
theorem dX10_told_88 : decode cX10_told 88 = .ok (.iload_n 1, 1) := by decide +kernel
theorem dX10_told_89 : decode cX10_told 89 = .ok (.iaload, 1) := by decide +kernel
theorem dX10_told_90 : decode cX10_told 90 = .ok (.ireturn, 1) := by decide +kernel
theorem dX10_told_91 : decode cX10_told 91 = .ok (.aload_n 0, 1) := by decide +kernel
theorem dX10_told_92 : decode cX10_told 92 = .ok (.getfield 16, 3) := by decide +kernel
theorem dX10_told_95 : decode cX10_told 95 = .ok (.iload_n 1, 1) := by decide +kernel
theorem dX10_told_96 : decode cX10_told 96 = .ok (.iaload, 1) := by decide +kernel
theorem dX10_told_97 : decode cX10_told 97 = .ok (.ireturn, 1) := by decide +kernel
theorem dX10_told_98 : decode cX10_told 98 = .ok (.sipush (-1002), 3) := by decide +kernel
theorem dX10_told_101 : decode cX10_told 101 = .ok (.ireturn, 1) := by decide +kernel
def BX10_told_56 (I56 : Int32 → Int32 → XT → YT → Prop) (Q : Int32 → XT → YT → Prop) (a1 : Int32) (a2 : Int32) (X : XT) (Y : YT) : Prop :=
  PX10_widthOf a1 a2 X Y (fun r1 X2 Y3 => Q r1 X2 Y3)
def BX10_told_s (I56 : Int32 → Int32 → XT → YT → Prop) (Q : Int32 → XT → YT → Prop) (p0 : Int32) (p1 : Int32) (X : XT) (Y : YT) : Prop :=
  PX10_noName p0 X Y (fun r1 X2 Y3 => ((r1 = 0 → ((p1.toInt < 0 ∨ 6 < p1.toInt → Q (-1002) X2 Y3) ∧ (p1 = 0 → I56 p0 p1 X2 Y3) ∧ (p1 = 1 → I56 p0 p1 X2 Y3) ∧ (p1 = 2 → vp_in p0 10 ∧ Q (X2 52 p0.toNatClampNeg) X2 Y3) ∧ (p1 = 3 → vp_in p0 10 ∧ Q (X2 53 p0.toNatClampNeg) X2 Y3) ∧ (p1 = 4 → vp_in p0 10 ∧ Q (X2 54 p0.toNatClampNeg) X2 Y3) ∧ (p1 = 5 → vp_in p0 10 ∧ Q (X2 55 p0.toNatClampNeg) X2 Y3) ∧ (p1 = 6 → vp_in p0 10 ∧ Q (X2 51 p0.toNatClampNeg) X2 Y3))) ∧ (¬ r1 = 0 → Q (-1001) X2 Y3)))
def PX10_told (p0 : Int32) (p1 : Int32) (X : XT) (Y : YT) (Q : Int32 → XT → YT → Prop) : Prop := ∀ (I56 : Int32 → Int32 → XT → YT → Prop), (∀ (a1 : Int32) (a2 : Int32) (X : XT) (Y : YT), BX10_told_56 I56 Q a1 a2 X Y → I56 a1 a2 X Y) → BX10_told_s I56 Q p0 p1 X Y
set_option maxHeartbeats 4000000 in
set_option maxRecDepth 100000 in
theorem kX10_told_56 {Γ : Cxt} {Q : Int32 → XT → YT → Prop} (O : Ok Γ RX10 cX10_told 3 { frames := 2, cells := 0, slots := 0, locals := 46 }) (r : Ret Γ (some .int) (qI Q)) {I56 : Int32 → Int32 → XT → YT → Prop} (e56 : ∀ (a1 : Int32) (a2 : Int32) (X : XT) (Y : YT), I56 a1 a2 X Y → V Γ 56 [(0, .ref 48), (1, .int a1), (2, .int a2)] [] X Y) {a1 : Int32} {a2 : Int32} {X : XT} {Y : YT} (h : BX10_told_56 I56 Q a1 a2 X Y) : V Γ 56 [(0, .ref 48), (1, .int a1), (2, .int a2)] [] X Y := by
  refine v_aload_n O dX10_told_56 rfl 0 rfl ?_
  refine v_iload_n O dX10_told_57 rfl 1 rfl ?_
  refine v_iload_n O dX10_told_58 rfl 2 rfl ?_
  refine v_callV (rm' := { frames := 0, cells := 0, slots := 0, locals := 0 }) (As := [.int a1, .int a2]) (st := []) O dX10_told_59 ci_X10_widthOf ml_X10_149 mi_X10_widthOf sh_48 rfl ⟨rfl, rfl, (by decide), (by decide)⟩ rfl (Nat.le_of_ble_eq_true rfl) rfl (mX10_widthOf h) (k_I (fun r1 X2 Y3 h4 => ?_))
  exact v_iret O r dX10_told_62 ⟨_, rfl, h4⟩
set_option maxHeartbeats 4000000 in
set_option maxRecDepth 100000 in
theorem kX10_told_s {Γ : Cxt} {Q : Int32 → XT → YT → Prop} (O : Ok Γ RX10 cX10_told 3 { frames := 2, cells := 0, slots := 0, locals := 46 }) (r : Ret Γ (some .int) (qI Q)) {I56 : Int32 → Int32 → XT → YT → Prop} (e56 : ∀ (a1 : Int32) (a2 : Int32) (X : XT) (Y : YT), I56 a1 a2 X Y → V Γ 56 [(0, .ref 48), (1, .int a1), (2, .int a2)] [] X Y) {p0 : Int32} {p1 : Int32} {X : XT} {Y : YT} (h : BX10_told_s I56 Q p0 p1 X Y) : V Γ 0 [(0, .ref 48), (1, .int p0), (2, .int p1)] [] X Y := by
  refine v_aload_n O dX10_told_0 rfl 0 rfl ?_
  refine v_iload_n O dX10_told_1 rfl 1 rfl ?_
  refine v_callV (rm' := { frames := 1, cells := 0, slots := 0, locals := 25 }) (As := [.int p0]) (st := []) O dX10_told_2 ci_X10_noName ml_X10_136 mi_X10_noName sh_48 rfl ⟨rfl, rfl, (by decide), (by decide)⟩ rfl (Nat.le_of_ble_eq_true rfl) rfl (mX10_noName h) (k_I (fun r1 X2 Y3 h4 => ?_))
  refine v_if_eq (tgt := 12) O dX10_told_5 (by decide) (fun g5 => ?_) (fun g5 => ?_)
  · refine v_iload_n O dX10_told_12 rfl 2 rfl ?_
    refine v_tsw (tg := [56, 56, 63, 70, 77, 84, 91]) (dt := 98) O dX10_told_13 (by decide) (by decide) (by decide) (by decide) (fun g6 => ?_) (fun j t hj g6 => ?_)
    · refine v_sipush O dX10_told_98 ks_m1002 ?_
      exact v_iret O r dX10_told_101 ⟨_, rfl, ((h4.1 g5).1 g6)⟩
    · match j, hj with
      | 0, hj =>
        cases hj
        exact v_loc [0, 1, 2] rfl (e56 p0 p1 X2 Y3 ((h4.1 g5).2.1 g6))
      | 1, hj =>
        cases hj
        exact v_loc [0, 1, 2] rfl (e56 p0 p1 X2 Y3 ((h4.1 g5).2.2.1 g6))
      | 2, hj =>
        cases hj
        refine v_aload_n O dX10_told_63 rfl 0 rfl ?_
        refine v_get O dX10_told_64 fo_X10_19 sh_48 rfl rfl ?_
        refine v_iload_n O dX10_told_67 rfl 1 rfl ?_
        refine v_iald O dX10_told_68 sh_52 ((h4.1 g5).2.2.2.1 g6).1 ?_
        exact v_iret O r dX10_told_69 ⟨_, rfl, ((h4.1 g5).2.2.2.1 g6).2⟩
      | 3, hj =>
        cases hj
        refine v_aload_n O dX10_told_70 rfl 0 rfl ?_
        refine v_get O dX10_told_71 fo_X10_22 sh_48 rfl rfl ?_
        refine v_iload_n O dX10_told_74 rfl 1 rfl ?_
        refine v_iald O dX10_told_75 sh_53 ((h4.1 g5).2.2.2.2.1 g6).1 ?_
        exact v_iret O r dX10_told_76 ⟨_, rfl, ((h4.1 g5).2.2.2.2.1 g6).2⟩
      | 4, hj =>
        cases hj
        refine v_aload_n O dX10_told_77 rfl 0 rfl ?_
        refine v_get O dX10_told_78 fo_X10_25 sh_48 rfl rfl ?_
        refine v_iload_n O dX10_told_81 rfl 1 rfl ?_
        refine v_iald O dX10_told_82 sh_54 ((h4.1 g5).2.2.2.2.2.1 g6).1 ?_
        exact v_iret O r dX10_told_83 ⟨_, rfl, ((h4.1 g5).2.2.2.2.2.1 g6).2⟩
      | 5, hj =>
        cases hj
        refine v_aload_n O dX10_told_84 rfl 0 rfl ?_
        refine v_get O dX10_told_85 fo_X10_28 sh_48 rfl rfl ?_
        refine v_iload_n O dX10_told_88 rfl 1 rfl ?_
        refine v_iald O dX10_told_89 sh_55 ((h4.1 g5).2.2.2.2.2.2.1 g6).1 ?_
        exact v_iret O r dX10_told_90 ⟨_, rfl, ((h4.1 g5).2.2.2.2.2.2.1 g6).2⟩
      | 6, hj =>
        cases hj
        refine v_aload_n O dX10_told_91 rfl 0 rfl ?_
        refine v_get O dX10_told_92 fo_X10_16 sh_48 rfl rfl ?_
        refine v_iload_n O dX10_told_95 rfl 1 rfl ?_
        refine v_iald O dX10_told_96 sh_51 ((h4.1 g5).2.2.2.2.2.2.2 g6).1 ?_
        exact v_iret O r dX10_told_97 ⟨_, rfl, ((h4.1 g5).2.2.2.2.2.2.2 g6).2⟩
      | j + 7, hj => simp at hj
  · refine v_sipush O dX10_told_8 ks_m1001 ?_
    exact v_iret O r dX10_told_11 ⟨_, rfl, (h4.2 g5)⟩
set_option maxRecDepth 100000 in
theorem mX10_told {Γ : Cxt} {p0 : Int32} {p1 : Int32} {X : XT} {Y : YT} {Q : Int32 → XT → YT → Prop} (h : PX10_told p0 p1 X Y Q) : MT Γ yX10_told (.code yX10_told cX10_told 3 (some .int) :: wl) { frames := 2, cells := 0, slots := 0, locals := 46 } [.ref 48, .int p0, .int p1] X Y (qI Q) :=
  mt_of (by decide) (Nat.le_of_ble_eq_true rfl) (fun Γ _ O r => kX10_told_s O r (fun _ _ _ _ g => g) (h (fun a1 a2 X Y => V Γ 56 [(0, .ref 48), (1, .int a1), (2, .int a2)] [] X Y) (fun _ _ _ _ g => kX10_told_56 O r (fun _ _ _ _ g => g) g)))
theorem dX10_nevers_0 : decode cX10_nevers 0 = .ok (.iconst 0, 1) := by decide +kernel
theorem dX10_nevers_1 : decode cX10_nevers 1 = .ok (.istore_n 1, 1) := by decide +kernel
theorem dX10_nevers_2 : decode cX10_nevers 2 = .ok (.iconst 0, 1) := by decide +kernel
theorem dX10_nevers_3 : decode cX10_nevers 3 = .ok (.istore_n 2, 1) := by decide +kernel
theorem dX10_nevers_4 : decode cX10_nevers 4 = .ok (.iload_n 2, 1) := by decide +kernel
theorem dX10_nevers_5 : decode cX10_nevers 5 = .ok (.aload_n 0, 1) := by decide +kernel
theorem dX10_nevers_6 : decode cX10_nevers 6 = .ok (.getfield 123, 3) := by decide +kernel
theorem dX10_nevers_9 : decode cX10_nevers 9 = .ok (.if_icmp .ge 21, 3) := by decide +kernel
theorem dX10_nevers_12 : decode cX10_nevers 12 = .ok (.iload_n 1, 1) := by decide +kernel
theorem dX10_nevers_13 : decode cX10_nevers 13 = .ok (.aload_n 0, 1) := by decide +kernel
theorem dX10_nevers_14 : decode cX10_nevers 14 = .ok (.getfield 31, 3) := by decide +kernel
theorem dX10_nevers_17 : decode cX10_nevers 17 = .ok (.iload_n 2, 1) := by decide +kernel
theorem dX10_nevers_18 : decode cX10_nevers 18 = .ok (.iaload, 1) := by decide +kernel
theorem dX10_nevers_19 : decode cX10_nevers 19 = .ok (.invokestatic 152, 3) := by decide +kernel
theorem dX10_nevers_22 : decode cX10_nevers 22 = .ok (.iadd, 1) := by decide +kernel
theorem dX10_nevers_23 : decode cX10_nevers 23 = .ok (.istore_n 1, 1) := by decide +kernel
theorem dX10_nevers_24 : decode cX10_nevers 24 = .ok (.iinc 2 1, 3) := by decide +kernel
theorem dX10_nevers_27 : decode cX10_nevers 27 = .ok (.goto (-23), 3) := by decide +kernel
theorem dX10_nevers_30 : decode cX10_nevers 30 = .ok (.iload_n 1, 1) := by decide +kernel
theorem dX10_nevers_31 : decode cX10_nevers 31 = .ok (.iconst 2, 1) := by decide +kernel
theorem dX10_nevers_32 : decode cX10_nevers 32 = .ok (.idiv, 1) := by decide +kernel
theorem dX10_nevers_33 : decode cX10_nevers 33 = .ok (.ireturn, 1) := by decide +kernel
def BX10_nevers_4 (I4 : Int32 → Int32 → XT → YT → Prop) (Q : Int32 → XT → YT → Prop) (a1 : Int32) (a2 : Int32) (X : XT) (Y : YT) : Prop :=
  (((X 48 1) ≤ a2 → Q (a1 / 2) X Y) ∧ (¬ (X 48 1) ≤ a2 → vp_in a2 10 ∧ PX10_ones (X 56 a2.toNatClampNeg) X Y (fun r2 X3 Y4 => ∀ w6 : Int32, w6 = (a1 + r2) → ∀ w8 : Int32, w8 = a2 + 1 → I4 w6 w8 X3 Y4)))
def BX10_nevers_s (I4 : Int32 → Int32 → XT → YT → Prop) (Q : Int32 → XT → YT → Prop) (X : XT) (Y : YT) : Prop :=
  I4 0 0 X Y
def PX10_nevers (X : XT) (Y : YT) (Q : Int32 → XT → YT → Prop) : Prop := ∀ (I4 : Int32 → Int32 → XT → YT → Prop), (∀ (a1 : Int32) (a2 : Int32) (X : XT) (Y : YT), BX10_nevers_4 I4 Q a1 a2 X Y → I4 a1 a2 X Y) → BX10_nevers_s I4 Q X Y
set_option maxHeartbeats 4000000 in
set_option maxRecDepth 100000 in
theorem kX10_nevers_4 {Γ : Cxt} {Q : Int32 → XT → YT → Prop} (O : Ok Γ RX10 cX10_nevers 3 { frames := 1, cells := 0, slots := 0, locals := 22 }) (r : Ret Γ (some .int) (qI Q)) {I4 : Int32 → Int32 → XT → YT → Prop} (e4 : ∀ (a1 : Int32) (a2 : Int32) (X : XT) (Y : YT), I4 a1 a2 X Y → V Γ 4 [(0, .ref 48), (1, .int a1), (2, .int a2)] [] X Y) {a1 : Int32} {a2 : Int32} {X : XT} {Y : YT} (h : BX10_nevers_4 I4 Q a1 a2 X Y) : V Γ 4 [(0, .ref 48), (1, .int a1), (2, .int a2)] [] X Y := by
  refine v_iload_n O dX10_nevers_4 rfl 2 rfl ?_
  refine v_aload_n O dX10_nevers_5 rfl 0 rfl ?_
  refine v_get O dX10_nevers_6 fo_X10_123 sh_48 rfl rfl ?_
  refine v_icmp_ge (tgt := 30) O dX10_nevers_9 (by decide) (fun g1 => ?_) (fun g1 => ?_)
  · refine v_iload_n O dX10_nevers_30 rfl 1 rfl ?_
    refine v_iconst O dX10_nevers_31 kc_2 ?_
    refine v_idiv O dX10_nevers_32 (by decide) ?_
    exact v_iret O r dX10_nevers_33 ⟨_, rfl, (h.1 g1)⟩
  · refine v_iload_n O dX10_nevers_12 rfl 1 rfl ?_
    refine v_aload_n O dX10_nevers_13 rfl 0 rfl ?_
    refine v_get O dX10_nevers_14 fo_X10_31 sh_48 rfl rfl ?_
    refine v_iload_n O dX10_nevers_17 rfl 2 rfl ?_
    refine v_iald O dX10_nevers_18 sh_56 (h.2 g1).1 ?_
    refine v_callS (rm' := { frames := 0, cells := 0, slots := 0, locals := 0 }) (As := [.int (X 56 a2.toNatClampNeg)]) (st := [.int a1]) O dX10_nevers_19 ci_X10_ones ml_X10_152 ms_X10_ones ⟨rfl, rfl, (by decide), (by decide)⟩ rfl (Nat.le_of_ble_eq_true rfl) rfl (mX10_ones (h.2 g1).2) (k_I (fun r2 X3 Y4 h5 => ?_))
    refine v_iadd O dX10_nevers_22 ?_
    refine v_topi (fun w6 hw7 => ?_)
    refine v_istore_n (lv' := [(1, .int w6), (0, .ref 48), (2, .int a2)]) O dX10_nevers_23 rfl (by decide) rfl ?_
    obtain ⟨w8, hw9⟩ : ∃ y : Int32, y = a2 + 1 := ⟨_, rfl⟩
    refine v_iinc (v := w8) (j := 2) O dX10_nevers_24 rfl (by rw [hw9]; exact congrArg _ kc_1) (by decide) (lv' := [(2, .int w8), (1, .int w6), (0, .ref 48)]) rfl ?_
    refine v_goto O dX10_nevers_27 (tgt := 4) (by decide) ?_
    exact v_loc [2, 1, 0] rfl (e4 w6 w8 X3 Y4 ((h5 w6 hw7) w8 hw9))
set_option maxHeartbeats 4000000 in
set_option maxRecDepth 100000 in
theorem kX10_nevers_s {Γ : Cxt} {Q : Int32 → XT → YT → Prop} (O : Ok Γ RX10 cX10_nevers 3 { frames := 1, cells := 0, slots := 0, locals := 22 }) (r : Ret Γ (some .int) (qI Q)) {I4 : Int32 → Int32 → XT → YT → Prop} (e4 : ∀ (a1 : Int32) (a2 : Int32) (X : XT) (Y : YT), I4 a1 a2 X Y → V Γ 4 [(0, .ref 48), (1, .int a1), (2, .int a2)] [] X Y) {X : XT} {Y : YT} (h : BX10_nevers_s I4 Q X Y) : V Γ 0 [(0, .ref 48)] [] X Y := by
  refine v_iconst O dX10_nevers_0 kc_0 ?_
  refine v_istore_n (lv' := [(1, .int 0), (0, .ref 48)]) O dX10_nevers_1 rfl (by decide) rfl ?_
  refine v_iconst O dX10_nevers_2 kc_0 ?_
  refine v_istore_n (lv' := [(2, .int 0), (1, .int 0), (0, .ref 48)]) O dX10_nevers_3 rfl (by decide) rfl ?_
  exact v_loc [2, 1, 0] rfl (e4 0 0 X Y h)
set_option maxRecDepth 100000 in
theorem mX10_nevers {Γ : Cxt} {X : XT} {Y : YT} {Q : Int32 → XT → YT → Prop} (h : PX10_nevers X Y Q) : MT Γ yX10_nevers (.code yX10_nevers cX10_nevers 3 (some .int) :: wl) { frames := 1, cells := 0, slots := 0, locals := 22 } [.ref 48] X Y (qI Q) :=
  mt_of (by decide) (Nat.le_of_ble_eq_true rfl) (fun Γ _ O r => kX10_nevers_s O r (fun _ _ _ _ g => g) (h (fun a1 a2 X Y => V Γ 4 [(0, .ref 48), (1, .int a1), (2, .int a2)] [] X Y) (fun _ _ _ _ g => kX10_nevers_4 O r (fun _ _ _ _ g => g) g)))
theorem dX10_count_0 : decode cX10_count 0 = .ok (.iload_n 1, 1) := by decide +kernel
theorem dX10_count_1 : decode cX10_count 1 = .ok (.tableswitch 99 0 8 #[51, 56, 61, 66, 71, 76, 81, 86, 91], 51) := by decide +kernel
theorem dX10_count_52 : decode cX10_count 52 = .ok (.aload_n 0, 1) := by decide +kernel
theorem dX10_count_53 : decode cX10_count 53 = .ok (.getfield 123, 3) := by decide +kernel
theorem dX10_count_56 : decode cX10_count 56 = .ok (.ireturn, 1) := by decide +kernel
theorem dX10_count_57 : decode cX10_count 57 = .ok (.aload_n 0, 1) := by decide +kernel
theorem dX10_count_58 : decode cX10_count 58 = .ok (.getfield 156, 3) := by decide +kernel
theorem dX10_count_61 : decode cX10_count 61 = .ok (.ireturn, 1) := by decide +kernel
theorem dX10_count_62 : decode cX10_count 62 = .ok (.aload_n 0, 1) := by decide +kernel
theorem dX10_count_63 : decode cX10_count 63 = .ok (.getfield 159, 3) := by decide +kernel
theorem dX10_count_66 : decode cX10_count 66 = .ok (.ireturn, 1) := by decide +kernel
theorem dX10_count_67 : decode cX10_count 67 = .ok (.aload_n 0, 1) := by decide +kernel
theorem dX10_count_68 : decode cX10_count 68 = .ok (.getfield 162, 3) := by decide +kernel
theorem dX10_count_71 : decode cX10_count 71 = .ok (.ireturn, 1) := by decide +kernel
theorem dX10_count_72 : decode cX10_count 72 = .ok (.aload_n 0, 1) := by decide +kernel
theorem dX10_count_73 : decode cX10_count 73 = .ok (.getfield 165, 3) := by decide +kernel
theorem dX10_count_76 : decode cX10_count 76 = .ok (.ireturn, 1) := by decide +kernel
theorem dX10_count_77 : decode cX10_count 77 = .ok (.aload_n 0, 1) := by decide +kernel
theorem dX10_count_78 : decode cX10_count 78 = .ok (.invokevirtual 168, 3) := by decide +kernel
theorem dX10_count_81 : decode cX10_count 81 = .ok (.ireturn, 1) := by decide +kernel
theorem dX10_count_82 : decode cX10_count 82 = .ok (.aload_n 0, 1) := by decide +kernel
theorem dX10_count_83 : decode cX10_count 83 = .ok (.getfield 118, 3) := by decide +kernel
theorem dX10_count_86 : decode cX10_count 86 = .ok (.ireturn, 1) := by decide +kernel
theorem dX10_count_87 : decode cX10_count 87 = .ok (.aload_n 0, 1) := by decide +kernel
theorem dX10_count_88 : decode cX10_count 88 = .ok (.getfield 146, 3) := by decide +kernel
theorem dX10_count_91 : decode cX10_count 91 = .ok (.ireturn, 1) := by decide +kernel
theorem dX10_count_92 : decode cX10_count 92 = .ok (.aload_n 0, 1) := by decide +kernel
theorem dX10_count_93 : decode cX10_count 93 = .ok (.getfield 172, 3) := by decide +kernel
theorem dX10_count_96 : decode cX10_count 96 = .ok (.invokestatic 152, 3) := by decide +kernel
theorem dX10_count_99 : decode cX10_count 99 = .ok (.ireturn, 1) := by decide +kernel
theorem dX10_count_100 : decode cX10_count 100 = .ok (.sipush (-1002), 3) := by decide +kernel
theorem dX10_count_103 : decode cX10_count 103 = .ok (.ireturn, 1) := by decide +kernel
def BX10_count_s (Q : Int32 → XT → YT → Prop) (p0 : Int32) (X : XT) (Y : YT) : Prop :=
  ((p0.toInt < 0 ∨ 8 < p0.toInt → Q (-1002) X Y) ∧ (p0 = 0 → Q (X 48 1) X Y) ∧ (p0 = 1 → Q (X 48 13) X Y) ∧ (p0 = 2 → Q (X 48 16) X Y) ∧ (p0 = 3 → Q (X 48 22) X Y) ∧ (p0 = 4 → Q (X 48 24) X Y) ∧ (p0 = 5 → PX10_nevers X Y (fun r2 X3 Y4 => Q r2 X3 Y4)) ∧ (p0 = 6 → Q (X 48 12) X Y) ∧ (p0 = 7 → Q (X 48 9) X Y) ∧ (p0 = 8 → PX10_ones (X 48 10) X Y (fun r6 X7 Y8 => Q r6 X7 Y8)))
def PX10_count (p0 : Int32) (X : XT) (Y : YT) (Q : Int32 → XT → YT → Prop) : Prop :=  BX10_count_s Q p0 X Y
set_option maxHeartbeats 4000000 in
set_option maxRecDepth 100000 in
theorem kX10_count_s {Γ : Cxt} {Q : Int32 → XT → YT → Prop} (O : Ok Γ RX10 cX10_count 2 { frames := 2, cells := 0, slots := 0, locals := 44 }) (r : Ret Γ (some .int) (qI Q)) {p0 : Int32} {X : XT} {Y : YT} (h : BX10_count_s Q p0 X Y) : V Γ 0 [(0, .ref 48), (1, .int p0)] [] X Y := by
  refine v_iload_n O dX10_count_0 rfl 1 rfl ?_
  refine v_tsw (tg := [52, 57, 62, 67, 72, 77, 82, 87, 92]) (dt := 100) O dX10_count_1 (by decide) (by decide) (by decide) (by decide) (fun g1 => ?_) (fun j t hj g1 => ?_)
  · refine v_sipush O dX10_count_100 ks_m1002 ?_
    exact v_iret O r dX10_count_103 ⟨_, rfl, (h.1 g1)⟩
  · match j, hj with
    | 0, hj =>
      cases hj
      refine v_aload_n O dX10_count_52 rfl 0 rfl ?_
      refine v_get O dX10_count_53 fo_X10_123 sh_48 rfl rfl ?_
      exact v_iret O r dX10_count_56 ⟨_, rfl, (h.2.1 g1)⟩
    | 1, hj =>
      cases hj
      refine v_aload_n O dX10_count_57 rfl 0 rfl ?_
      refine v_get O dX10_count_58 fo_X10_156 sh_48 rfl rfl ?_
      exact v_iret O r dX10_count_61 ⟨_, rfl, (h.2.2.1 g1)⟩
    | 2, hj =>
      cases hj
      refine v_aload_n O dX10_count_62 rfl 0 rfl ?_
      refine v_get O dX10_count_63 fo_X10_159 sh_48 rfl rfl ?_
      exact v_iret O r dX10_count_66 ⟨_, rfl, (h.2.2.2.1 g1)⟩
    | 3, hj =>
      cases hj
      refine v_aload_n O dX10_count_67 rfl 0 rfl ?_
      refine v_get O dX10_count_68 fo_X10_162 sh_48 rfl rfl ?_
      exact v_iret O r dX10_count_71 ⟨_, rfl, (h.2.2.2.2.1 g1)⟩
    | 4, hj =>
      cases hj
      refine v_aload_n O dX10_count_72 rfl 0 rfl ?_
      refine v_get O dX10_count_73 fo_X10_165 sh_48 rfl rfl ?_
      exact v_iret O r dX10_count_76 ⟨_, rfl, (h.2.2.2.2.2.1 g1)⟩
    | 5, hj =>
      cases hj
      refine v_aload_n O dX10_count_77 rfl 0 rfl ?_
      refine v_callV (rm' := { frames := 1, cells := 0, slots := 0, locals := 22 }) (As := []) (st := []) O dX10_count_78 ci_X10_nevers ml_X10_168 mi_X10_nevers sh_48 rfl ⟨rfl, rfl, (by decide), (by decide)⟩ rfl (Nat.le_of_ble_eq_true rfl) rfl (mX10_nevers (h.2.2.2.2.2.2.1 g1)) (k_I (fun r2 X3 Y4 h5 => ?_))
      exact v_iret O r dX10_count_81 ⟨_, rfl, h5⟩
    | 6, hj =>
      cases hj
      refine v_aload_n O dX10_count_82 rfl 0 rfl ?_
      refine v_get O dX10_count_83 fo_X10_118 sh_48 rfl rfl ?_
      exact v_iret O r dX10_count_86 ⟨_, rfl, (h.2.2.2.2.2.2.2.1 g1)⟩
    | 7, hj =>
      cases hj
      refine v_aload_n O dX10_count_87 rfl 0 rfl ?_
      refine v_get O dX10_count_88 fo_X10_146 sh_48 rfl rfl ?_
      exact v_iret O r dX10_count_91 ⟨_, rfl, (h.2.2.2.2.2.2.2.2.1 g1)⟩
    | 8, hj =>
      cases hj
      refine v_aload_n O dX10_count_92 rfl 0 rfl ?_
      refine v_get O dX10_count_93 fo_X10_172 sh_48 rfl rfl ?_
      refine v_callS (rm' := { frames := 0, cells := 0, slots := 0, locals := 0 }) (As := [.int (X 48 10)]) (st := []) O dX10_count_96 ci_X10_ones ml_X10_152 ms_X10_ones ⟨rfl, rfl, (by decide), (by decide)⟩ rfl (Nat.le_of_ble_eq_true rfl) rfl (mX10_ones (h.2.2.2.2.2.2.2.2.2 g1)) (k_I (fun r6 X7 Y8 h9 => ?_))
      exact v_iret O r dX10_count_99 ⟨_, rfl, h9⟩
    | j + 9, hj => simp at hj
set_option maxRecDepth 100000 in
theorem mX10_count {Γ : Cxt} {p0 : Int32} {X : XT} {Y : YT} {Q : Int32 → XT → YT → Prop} (h : PX10_count p0 X Y Q) : MT Γ yX10_count (.code yX10_count cX10_count 2 (some .int) :: wl) { frames := 2, cells := 0, slots := 0, locals := 44 } [.ref 48, .int p0] X Y (qI Q) :=
  mt_of (by decide) (Nat.le_of_ble_eq_true rfl) (fun Γ _ O r => kX10_count_s O r  (h ))
