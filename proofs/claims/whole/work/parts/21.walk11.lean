theorem dX10_may_0 : decode cX10_may 0 = .ok (.aload_n 0, 1) := by decide +kernel
theorem dX10_may_1 : decode cX10_may 1 = .ok (.iload_n 1, 1) := by decide +kernel
theorem dX10_may_2 : decode cX10_may 2 = .ok (.invokevirtual 231, 3) := by decide +kernel
theorem dX10_may_5 : decode cX10_may 5 = .ok (.ifCond .eq 7, 3) := by decide +kernel
theorem dX10_may_8 : decode cX10_may 8 = .ok (.sipush (-1001), 3) := by decide +kernel
theorem dX10_may_11 : decode cX10_may 11 = .ok (.ireturn, 1) := by decide +kernel
theorem dX10_may_12 : decode cX10_may 12 = .ok (.aload_n 0, 1) := by decide +kernel
theorem dX10_may_13 : decode cX10_may 13 = .ok (.invokevirtual 296, 3) := by decide +kernel
theorem dX10_may_16 : decode cX10_may 16 = .ok (.aload_n 0, 1) := by decide +kernel
theorem dX10_may_17 : decode cX10_may 17 = .ok (.invokevirtual 299, 3) := by decide +kernel
theorem dX10_may_20 : decode cX10_may 20 = .ok (.ifCond .eq 16, 3) := by decide +kernel
theorem dX10_may_23 : decode cX10_may 23 = .ok (.aload_n 0, 1) := by decide +kernel
theorem dX10_may_24 : decode cX10_may 24 = .ok (.getfield 92, 3) := by decide +kernel
theorem dX10_may_27 : decode cX10_may 27 = .ok (.aload_n 0, 1) := by decide +kernel
theorem dX10_may_28 : decode cX10_may 28 = .ok (.iload_n 1, 1) := by decide +kernel
theorem dX10_may_29 : decode cX10_may 29 = .ok (.invokevirtual 303, 3) := by decide +kernel
theorem dX10_may_32 : decode cX10_may 32 = .ok (.iaload, 1) := by decide +kernel
theorem dX10_may_33 : decode cX10_may 33 = .ok (.goto 6, 3) := by decide +kernel
theorem dX10_may_36 : decode cX10_may 36 = .ok (.sipush (-1005), 3) := by decide +kernel
theorem dX10_may_39 : decode cX10_may 39 = .ok (.ireturn, 1) := by decide +kernel
def BX10_may_s (Q : Int32 → XT → YT → Prop) (p0 : Int32) (X : XT) (Y : YT) : Prop :=
  PX10_noBar p0 X Y (fun r1 X2 Y3 => ((r1 = 0 → PX10_begin X2 Y3 (fun X7 Y8 => PX10_goThrough X7 Y8 (fun r10 X11 Y12 => ((r10 = 0 → Q (-1005) X11 Y12) ∧ (¬ r10 = 0 → PX10_posOf p0 X11 Y12 (fun r15 X16 Y17 => vp_in r15 20 ∧ Q (X16 75 r15.toNatClampNeg) X16 Y17)))))) ∧ (¬ r1 = 0 → Q (-1001) X2 Y3)))
def PX10_may (p0 : Int32) (X : XT) (Y : YT) (Q : Int32 → XT → YT → Prop) : Prop :=  BX10_may_s Q p0 X Y
set_option maxHeartbeats 4000000 in
set_option maxRecDepth 100000 in
theorem kX10_may_s {Γ : Cxt} {Q : Int32 → XT → YT → Prop} (O : Ok Γ RX10 cX10_may 2 { frames := 5, cells := 0, slots := 0, locals := 116 }) (r : Ret Γ (some .int) (qI Q)) {p0 : Int32} {X : XT} {Y : YT} (h : BX10_may_s Q p0 X Y) : V Γ 0 [(0, .ref 48), (1, .int p0)] [] X Y := by
  refine v_aload_n O dX10_may_0 rfl 0 rfl ?_
  refine v_iload_n O dX10_may_1 rfl 1 rfl ?_
  refine v_callV (rm' := { frames := 1, cells := 0, slots := 0, locals := 25 }) (As := [.int p0]) (st := []) O dX10_may_2 ci_X10_noBar ml_X10_231 mi_X10_noBar sh_48 rfl ⟨rfl, rfl, (by decide), (by decide)⟩ rfl (Nat.le_of_ble_eq_true rfl) rfl (mX10_noBar h) (k_I (fun r1 X2 Y3 h4 => ?_))
  refine v_if_eq (tgt := 12) O dX10_may_5 (by decide) (fun g5 => ?_) (fun g5 => ?_)
  · refine v_aload_n O dX10_may_12 rfl 0 rfl ?_
    refine v_callV (rm' := { frames := 0, cells := 0, slots := 0, locals := 0 }) (As := []) (st := []) O dX10_may_13 ci_X10_begin ml_X10_296 mi_X10_begin sh_48 rfl ⟨rfl, rfl, (by decide), (by decide)⟩ rfl (Nat.le_of_ble_eq_true rfl) rfl (mX10_begin (h4.1 g5)) (k_V (fun X7 Y8 h9 => ?_))
    refine v_aload_n O dX10_may_16 rfl 0 rfl ?_
    refine v_callV (rm' := { frames := 4, cells := 0, slots := 0, locals := 94 }) (As := []) (st := []) O dX10_may_17 ci_X10_goThrough ml_X10_299 mi_X10_goThrough sh_48 rfl ⟨rfl, rfl, (by decide), (by decide)⟩ rfl (Nat.le_of_ble_eq_true rfl) rfl (mX10_goThrough h9) (k_I (fun r10 X11 Y12 h13 => ?_))
    refine v_if_eq (tgt := 36) O dX10_may_20 (by decide) (fun g14 => ?_) (fun g14 => ?_)
    · refine v_sipush O dX10_may_36 ks_m1005 ?_
      exact v_iret O r dX10_may_39 ⟨_, rfl, (h13.1 g14)⟩
    · refine v_aload_n O dX10_may_23 rfl 0 rfl ?_
      refine v_get O dX10_may_24 fo_X10_92 sh_48 rfl rfl ?_
      refine v_aload_n O dX10_may_27 rfl 0 rfl ?_
      refine v_iload_n O dX10_may_28 rfl 1 rfl ?_
      refine v_callV (rm' := { frames := 0, cells := 0, slots := 0, locals := 0 }) (As := [.int p0]) (st := [.ref 75]) O dX10_may_29 ci_X10_posOf ml_X10_303 mi_X10_posOf sh_48 rfl ⟨rfl, rfl, (by decide), (by decide)⟩ rfl (Nat.le_of_ble_eq_true rfl) rfl (mX10_posOf (h13.2 g14)) (k_I (fun r15 X16 Y17 h18 => ?_))
      refine v_iald O dX10_may_32 sh_75 h18.1 ?_
      refine v_goto O dX10_may_33 (tgt := 39) (by decide) ?_
      exact v_iret O r dX10_may_39 ⟨_, rfl, h18.2⟩
  · refine v_sipush O dX10_may_8 ks_m1001 ?_
    exact v_iret O r dX10_may_11 ⟨_, rfl, (h4.2 g5)⟩
set_option maxRecDepth 100000 in
theorem mX10_may {Γ : Cxt} {p0 : Int32} {X : XT} {Y : YT} {Q : Int32 → XT → YT → Prop} (h : PX10_may p0 X Y Q) : MT Γ yX10_may (.code yX10_may cX10_may 2 (some .int) :: wl) { frames := 5, cells := 0, slots := 0, locals := 116 } [.ref 48, .int p0] X Y (qI Q) :=
  mt_of (by decide) (Nat.le_of_ble_eq_true rfl) (fun Γ _ O r => kX10_may_s O r  (h ))
theorem dX10_fits_0 : decode cX10_fits 0 = .ok (.aload_n 0, 1) := by decide +kernel
theorem dX10_fits_1 : decode cX10_fits 1 = .ok (.iload_n 1, 1) := by decide +kernel
theorem dX10_fits_2 : decode cX10_fits 2 = .ok (.invokevirtual 231, 3) := by decide +kernel
theorem dX10_fits_5 : decode cX10_fits 5 = .ok (.ifCond .eq 7, 3) := by decide +kernel
theorem dX10_fits_8 : decode cX10_fits 8 = .ok (.sipush (-1001), 3) := by decide +kernel
theorem dX10_fits_11 : decode cX10_fits 11 = .ok (.ireturn, 1) := by decide +kernel
theorem dX10_fits_12 : decode cX10_fits 12 = .ok (.aload_n 0, 1) := by decide +kernel
theorem dX10_fits_13 : decode cX10_fits 13 = .ok (.invokevirtual 296, 3) := by decide +kernel
theorem dX10_fits_16 : decode cX10_fits 16 = .ok (.iconst 0, 1) := by decide +kernel
theorem dX10_fits_17 : decode cX10_fits 17 = .ok (.istore_n 2, 1) := by decide +kernel
theorem dX10_fits_18 : decode cX10_fits 18 = .ok (.iconst 0, 1) := by decide +kernel
theorem dX10_fits_19 : decode cX10_fits 19 = .ok (.istore_n 3, 1) := by decide +kernel
theorem dX10_fits_20 : decode cX10_fits 20 = .ok (.iload_n 3, 1) := by decide +kernel
theorem dX10_fits_21 : decode cX10_fits 21 = .ok (.aload_n 0, 1) := by decide +kernel
theorem dX10_fits_22 : decode cX10_fits 22 = .ok (.getfield 123, 3) := by decide +kernel
theorem dX10_fits_25 : decode cX10_fits 25 = .ok (.if_icmp .ge 28, 3) := by decide +kernel
theorem dX10_fits_28 : decode cX10_fits 28 = .ok (.iload_n 2, 1) := by decide +kernel
theorem dX10_fits_29 : decode cX10_fits 29 = .ok (.aload_n 0, 1) := by decide +kernel
theorem dX10_fits_30 : decode cX10_fits 30 = .ok (.iload_n 3, 1) := by decide +kernel
theorem dX10_fits_31 : decode cX10_fits 31 = .ok (.aload_n 0, 1) := by decide +kernel
theorem dX10_fits_32 : decode cX10_fits 32 = .ok (.getfield 58, 3) := by decide +kernel
theorem dX10_fits_35 : decode cX10_fits 35 = .ok (.iload_n 1, 1) := by decide +kernel
theorem dX10_fits_36 : decode cX10_fits 36 = .ok (.iaload, 1) := by decide +kernel
theorem dX10_fits_37 : decode cX10_fits 37 = .ok (.invokevirtual 258, 3) := by decide +kernel
theorem dX10_fits_40 : decode cX10_fits 40 = .ok (.invokestatic 198, 3) := by decide +kernel
theorem dX10_fits_43 : decode cX10_fits 43 = .ok (.iload_n 3, 1) := by decide +kernel
theorem dX10_fits_44 : decode cX10_fits 44 = .ok (.ishl, 1) := by decide +kernel
theorem dX10_fits_45 : decode cX10_fits 45 = .ok (.ior, 1) := by decide +kernel
theorem dX10_fits_46 : decode cX10_fits 46 = .ok (.istore_n 2, 1) := by decide +kernel
theorem dX10_fits_47 : decode cX10_fits 47 = .ok (.iinc 3 1, 3) := by decide +kernel
theorem dX10_fits_50 : decode cX10_fits 50 = .ok (.goto (-30), 3) := by decide +kernel
theorem dX10_fits_53 : decode cX10_fits 53 = .ok (.iload_n 2, 1) := by decide +kernel
theorem dX10_fits_54 : decode cX10_fits 54 = .ok (.ireturn, 1) := by decide +kernel
def BX10_fits_20 (I20 : Int32 → Int32 → Int32 → XT → YT → Prop) (Q : Int32 → XT → YT → Prop) (a1 : Int32) (a2 : Int32) (a3 : Int32) (X : XT) (Y : YT) : Prop :=
  (((X 48 1) ≤ a3 → Q a2 X Y) ∧ (¬ (X 48 1) ≤ a3 → vp_in a1 10 ∧ PX10_fitsAt a3 (X 65 a1.toNatClampNeg) X Y (fun r2 X3 Y4 => PX10_one r2 X3 Y4 (fun r6 X7 Y8 => ∀ w10 : Int32, w10 = (a2 ||| (r6 <<< (a3 &&& 31))) → ∀ w12 : Int32, w12 = a3 + 1 → I20 a1 w10 w12 X7 Y8))))
def BX10_fits_s (I20 : Int32 → Int32 → Int32 → XT → YT → Prop) (Q : Int32 → XT → YT → Prop) (p0 : Int32) (X : XT) (Y : YT) : Prop :=
  PX10_noBar p0 X Y (fun r1 X2 Y3 => ((r1 = 0 → PX10_begin X2 Y3 (fun X7 Y8 => I20 p0 0 0 X7 Y8)) ∧ (¬ r1 = 0 → Q (-1001) X2 Y3)))
def PX10_fits (p0 : Int32) (X : XT) (Y : YT) (Q : Int32 → XT → YT → Prop) : Prop := ∀ (I20 : Int32 → Int32 → Int32 → XT → YT → Prop), (∀ (a1 : Int32) (a2 : Int32) (a3 : Int32) (X : XT) (Y : YT), BX10_fits_20 I20 Q a1 a2 a3 X Y → I20 a1 a2 a3 X Y) → BX10_fits_s I20 Q p0 X Y
set_option maxHeartbeats 4000000 in
set_option maxRecDepth 100000 in
theorem kX10_fits_20 {Γ : Cxt} {Q : Int32 → XT → YT → Prop} (O : Ok Γ RX10 cX10_fits 4 { frames := 3, cells := 0, slots := 0, locals := 68 }) (r : Ret Γ (some .int) (qI Q)) {I20 : Int32 → Int32 → Int32 → XT → YT → Prop} (e20 : ∀ (a1 : Int32) (a2 : Int32) (a3 : Int32) (X : XT) (Y : YT), I20 a1 a2 a3 X Y → V Γ 20 [(0, .ref 48), (1, .int a1), (2, .int a2), (3, .int a3)] [] X Y) {a1 : Int32} {a2 : Int32} {a3 : Int32} {X : XT} {Y : YT} (h : BX10_fits_20 I20 Q a1 a2 a3 X Y) : V Γ 20 [(0, .ref 48), (1, .int a1), (2, .int a2), (3, .int a3)] [] X Y := by
  refine v_iload_n O dX10_fits_20 rfl 3 rfl ?_
  refine v_aload_n O dX10_fits_21 rfl 0 rfl ?_
  refine v_get O dX10_fits_22 fo_X10_123 sh_48 rfl rfl ?_
  refine v_icmp_ge (tgt := 53) O dX10_fits_25 (by decide) (fun g1 => ?_) (fun g1 => ?_)
  · refine v_iload_n O dX10_fits_53 rfl 2 rfl ?_
    exact v_iret O r dX10_fits_54 ⟨_, rfl, (h.1 g1)⟩
  · refine v_iload_n O dX10_fits_28 rfl 2 rfl ?_
    refine v_aload_n O dX10_fits_29 rfl 0 rfl ?_
    refine v_iload_n O dX10_fits_30 rfl 3 rfl ?_
    refine v_aload_n O dX10_fits_31 rfl 0 rfl ?_
    refine v_get O dX10_fits_32 fo_X10_58 sh_48 rfl rfl ?_
    refine v_iload_n O dX10_fits_35 rfl 1 rfl ?_
    refine v_iald O dX10_fits_36 sh_65 (h.2 g1).1 ?_
    refine v_callV (rm' := { frames := 2, cells := 0, slots := 0, locals := 45 }) (As := [.int a3, .int (X 65 a1.toNatClampNeg)]) (st := [.int a2]) O dX10_fits_37 ci_X10_fitsAt ml_X10_258 mi_X10_fitsAt sh_48 rfl ⟨rfl, rfl, (by decide), (by decide)⟩ rfl (Nat.le_of_ble_eq_true rfl) rfl (mX10_fitsAt (h.2 g1).2) (k_I (fun r2 X3 Y4 h5 => ?_))
    refine v_callS (rm' := { frames := 0, cells := 0, slots := 0, locals := 0 }) (As := [.int r2]) (st := [.int a2]) O dX10_fits_40 ci_X10_one ml_X10_198 ms_X10_one ⟨rfl, rfl, (by decide), (by decide)⟩ rfl (Nat.le_of_ble_eq_true rfl) rfl (mX10_one h5) (k_I (fun r6 X7 Y8 h9 => ?_))
    refine v_iload_n O dX10_fits_43 rfl 3 rfl ?_
    refine v_ishl O dX10_fits_44 ?_
    refine v_ior O dX10_fits_45 ?_
    refine v_topi (fun w10 hw11 => ?_)
    refine v_istore_n (lv' := [(2, .int w10), (0, .ref 48), (1, .int a1), (3, .int a3)]) O dX10_fits_46 rfl (by decide) rfl ?_
    obtain ⟨w12, hw13⟩ : ∃ y : Int32, y = a3 + 1 := ⟨_, rfl⟩
    refine v_iinc (v := w12) (j := 3) O dX10_fits_47 rfl (by rw [hw13]; exact congrArg _ kc_1) (by decide) (lv' := [(3, .int w12), (2, .int w10), (0, .ref 48), (1, .int a1)]) rfl ?_
    refine v_goto O dX10_fits_50 (tgt := 20) (by decide) ?_
    exact v_loc [2, 3, 1, 0] rfl (e20 a1 w10 w12 X7 Y8 ((h9 w10 hw11) w12 hw13))
set_option maxHeartbeats 4000000 in
set_option maxRecDepth 100000 in
theorem kX10_fits_s {Γ : Cxt} {Q : Int32 → XT → YT → Prop} (O : Ok Γ RX10 cX10_fits 4 { frames := 3, cells := 0, slots := 0, locals := 68 }) (r : Ret Γ (some .int) (qI Q)) {I20 : Int32 → Int32 → Int32 → XT → YT → Prop} (e20 : ∀ (a1 : Int32) (a2 : Int32) (a3 : Int32) (X : XT) (Y : YT), I20 a1 a2 a3 X Y → V Γ 20 [(0, .ref 48), (1, .int a1), (2, .int a2), (3, .int a3)] [] X Y) {p0 : Int32} {X : XT} {Y : YT} (h : BX10_fits_s I20 Q p0 X Y) : V Γ 0 [(0, .ref 48), (1, .int p0)] [] X Y := by
  refine v_aload_n O dX10_fits_0 rfl 0 rfl ?_
  refine v_iload_n O dX10_fits_1 rfl 1 rfl ?_
  refine v_callV (rm' := { frames := 1, cells := 0, slots := 0, locals := 25 }) (As := [.int p0]) (st := []) O dX10_fits_2 ci_X10_noBar ml_X10_231 mi_X10_noBar sh_48 rfl ⟨rfl, rfl, (by decide), (by decide)⟩ rfl (Nat.le_of_ble_eq_true rfl) rfl (mX10_noBar h) (k_I (fun r1 X2 Y3 h4 => ?_))
  refine v_if_eq (tgt := 12) O dX10_fits_5 (by decide) (fun g5 => ?_) (fun g5 => ?_)
  · refine v_aload_n O dX10_fits_12 rfl 0 rfl ?_
    refine v_callV (rm' := { frames := 0, cells := 0, slots := 0, locals := 0 }) (As := []) (st := []) O dX10_fits_13 ci_X10_begin ml_X10_296 mi_X10_begin sh_48 rfl ⟨rfl, rfl, (by decide), (by decide)⟩ rfl (Nat.le_of_ble_eq_true rfl) rfl (mX10_begin (h4.1 g5)) (k_V (fun X7 Y8 h9 => ?_))
    refine v_iconst O dX10_fits_16 kc_0 ?_
    refine v_istore_n (lv' := [(2, .int 0), (0, .ref 48), (1, .int p0)]) O dX10_fits_17 rfl (by decide) rfl ?_
    refine v_iconst O dX10_fits_18 kc_0 ?_
    refine v_istore_n (lv' := [(3, .int 0), (2, .int 0), (0, .ref 48), (1, .int p0)]) O dX10_fits_19 rfl (by decide) rfl ?_
    exact v_loc [2, 3, 1, 0] rfl (e20 p0 0 0 X7 Y8 h9)
  · refine v_sipush O dX10_fits_8 ks_m1001 ?_
    exact v_iret O r dX10_fits_11 ⟨_, rfl, (h4.2 g5)⟩
set_option maxRecDepth 100000 in
theorem mX10_fits {Γ : Cxt} {p0 : Int32} {X : XT} {Y : YT} {Q : Int32 → XT → YT → Prop} (h : PX10_fits p0 X Y Q) : MT Γ yX10_fits (.code yX10_fits cX10_fits 4 (some .int) :: wl) { frames := 3, cells := 0, slots := 0, locals := 68 } [.ref 48, .int p0] X Y (qI Q) :=
  mt_of (by decide) (Nat.le_of_ble_eq_true rfl) (fun Γ _ O r => kX10_fits_s O r (fun _ _ _ _ _ g => g) (h (fun a1 a2 a3 X Y => V Γ 20 [(0, .ref 48), (1, .int a1), (2, .int a2), (3, .int a3)] [] X Y) (fun _ _ _ _ _ g => kX10_fits_20 O r (fun _ _ _ _ _ g => g) g)))
theorem dX10_gcd_0 : decode cX10_gcd 0 = .ok (.lload_n 0, 1) := by decide +kernel
theorem dX10_gcd_1 : decode cX10_gcd 1 = .ok (.lstore 4, 2) := by decide +kernel
theorem dX10_gcd_3 : decode cX10_gcd 3 = .ok (.lload_n 2, 1) := by decide +kernel
theorem dX10_gcd_4 : decode cX10_gcd 4 = .ok (.lstore 6, 2) := by decide +kernel
theorem dX10_gcd_6 : decode cX10_gcd 6 = .ok (.lload 6, 2) := by decide +kernel
theorem dX10_gcd_8 : decode cX10_gcd 8 = .ok (.lconst 0, 1) := by decide +kernel
theorem dX10_gcd_9 : decode cX10_gcd 9 = .ok (.lcmp, 1) := by decide +kernel
theorem dX10_gcd_10 : decode cX10_gcd 10 = .ok (.ifCond .eq 21, 3) := by decide +kernel
theorem dX10_gcd_13 : decode cX10_gcd 13 = .ok (.lload 4, 2) := by decide +kernel
theorem dX10_gcd_15 : decode cX10_gcd 15 = .ok (.lload 6, 2) := by decide +kernel
theorem dX10_gcd_17 : decode cX10_gcd 17 = .ok (.lrem, 1) := by decide +kernel
theorem dX10_gcd_18 : decode cX10_gcd 18 = .ok (.lstore 8, 2) := by decide +kernel
theorem dX10_gcd_20 : decode cX10_gcd 20 = .ok (.lload 6, 2) := by decide +kernel
theorem dX10_gcd_22 : decode cX10_gcd 22 = .ok (.lstore 4, 2) := by decide +kernel
theorem dX10_gcd_24 : decode cX10_gcd 24 = .ok (.lload 8, 2) := by decide +kernel
theorem dX10_gcd_26 : decode cX10_gcd 26 = .ok (.lstore 6, 2) := by decide +kernel
theorem dX10_gcd_28 : decode cX10_gcd 28 = .ok (.goto (-22), 3) := by decide +kernel
theorem dX10_gcd_31 : decode cX10_gcd 31 = .ok (.lload 4, 2) := by decide +kernel
theorem dX10_gcd_33 : decode cX10_gcd 33 = .ok (.lreturn, 1) := by decide +kernel
def BX10_gcd_6 (I6 : Int64 → Int64 → XT → YT → Prop) (Q : Int64 → XT → YT → Prop) (a4 : Int64) (a6 : Int64) (X : XT) (Y : YT) : Prop :=
  (((lg_cmp a6 (0 : Int64)) = 0 → Q a4 X Y) ∧ (¬ (lg_cmp a6 (0 : Int64)) = 0 → ¬ a6 = 0 ∧ ∀ w2 : Int64, w2 = (a4 - (a4 / a6) * a6) → I6 a6 w2 X Y))
def BX10_gcd_s (I6 : Int64 → Int64 → XT → YT → Prop) (Q : Int64 → XT → YT → Prop) (p0 : Int64) (p1 : Int64) (X : XT) (Y : YT) : Prop :=
  I6 p0 p1 X Y
def PX10_gcd (p0 : Int64) (p1 : Int64) (X : XT) (Y : YT) (Q : Int64 → XT → YT → Prop) : Prop := ∀ (I6 : Int64 → Int64 → XT → YT → Prop), (∀ (a4 : Int64) (a6 : Int64) (X : XT) (Y : YT), BX10_gcd_6 I6 Q a4 a6 X Y → I6 a4 a6 X Y) → BX10_gcd_s I6 Q p0 p1 X Y
set_option maxHeartbeats 4000000 in
set_option maxRecDepth 100000 in
theorem kX10_gcd_6 {Γ : Cxt} {Q : Int64 → XT → YT → Prop} (O : Ok Γ RX10 cX10_gcd 10 { frames := 0, cells := 0, slots := 0, locals := 0 }) (r : Ret Γ (some .long) (qL Q)) {I6 : Int64 → Int64 → XT → YT → Prop} (e6 : ∀ (a4 : Int64) (a6 : Int64) (X : XT) (Y : YT), I6 a4 a6 X Y → V Γ 6 [(4, .long a4), (6, .long a6)] [] X Y) {a4 : Int64} {a6 : Int64} {X : XT} {Y : YT} (h : BX10_gcd_6 I6 Q a4 a6 X Y) : V Γ 6 [(4, .long a4), (6, .long a6)] [] X Y := by
  refine v_lload O dX10_gcd_6 1 rfl ?_
  refine v_lconst O dX10_gcd_8 (v := 0) (by decide) ?_
  refine v_lcmp O dX10_gcd_9 ?_
  refine v_if_eq (tgt := 31) O dX10_gcd_10 (by decide) (fun g1 => ?_) (fun g1 => ?_)
  · refine v_lload O dX10_gcd_31 0 rfl ?_
    exact v_lret O r dX10_gcd_33 ⟨_, rfl, (h.1 g1)⟩
  · refine v_lload O dX10_gcd_13 0 rfl ?_
    refine v_lload O dX10_gcd_15 1 rfl ?_
    refine v_lrem O dX10_gcd_17 (h.2 g1).1 ?_
    refine v_topl (fun w2 hw3 => ?_)
    refine v_lstore (lv' := [(8, .long w2), (4, .long a4), (6, .long a6)]) O dX10_gcd_18 (by decide) rfl ?_
    refine v_lload O dX10_gcd_20 2 rfl ?_
    refine v_lstore (lv' := [(4, .long a6), (8, .long w2), (6, .long a6)]) O dX10_gcd_22 (by decide) rfl ?_
    refine v_lload O dX10_gcd_24 1 rfl ?_
    refine v_lstore (lv' := [(6, .long w2), (4, .long a6), (8, .long w2)]) O dX10_gcd_26 (by decide) rfl ?_
    refine v_goto O dX10_gcd_28 (tgt := 6) (by decide) ?_
    exact v_loc [1, 0] rfl (e6 a6 w2 X Y ((h.2 g1).2 w2 hw3))
set_option maxHeartbeats 4000000 in
set_option maxRecDepth 100000 in
theorem kX10_gcd_s {Γ : Cxt} {Q : Int64 → XT → YT → Prop} (O : Ok Γ RX10 cX10_gcd 10 { frames := 0, cells := 0, slots := 0, locals := 0 }) (r : Ret Γ (some .long) (qL Q)) {I6 : Int64 → Int64 → XT → YT → Prop} (e6 : ∀ (a4 : Int64) (a6 : Int64) (X : XT) (Y : YT), I6 a4 a6 X Y → V Γ 6 [(4, .long a4), (6, .long a6)] [] X Y) {p0 : Int64} {p1 : Int64} {X : XT} {Y : YT} (h : BX10_gcd_s I6 Q p0 p1 X Y) : V Γ 0 [(0, .long p0), (2, .long p1)] [] X Y := by
  refine v_lload_n O dX10_gcd_0 rfl 0 rfl ?_
  refine v_lstore (lv' := [(4, .long p0), (0, .long p0), (2, .long p1)]) O dX10_gcd_1 (by decide) rfl ?_
  refine v_lload_n O dX10_gcd_3 rfl 2 rfl ?_
  refine v_lstore (lv' := [(6, .long p1), (4, .long p0), (0, .long p0), (2, .long p1)]) O dX10_gcd_4 (by decide) rfl ?_
  exact v_loc [1, 0] rfl (e6 p0 p1 X Y h)
set_option maxRecDepth 100000 in
theorem mX10_gcd {Γ : Cxt} {p0 : Int64} {p1 : Int64} {X : XT} {Y : YT} {Q : Int64 → XT → YT → Prop} (h : PX10_gcd p0 p1 X Y Q) : MT Γ yX10_gcd (.code yX10_gcd cX10_gcd 10 (some .long) :: wl) { frames := 0, cells := 0, slots := 0, locals := 0 } [.long p0, .long p1] X Y (qL Q) :=
  mt_of (by decide) (Nat.le_of_ble_eq_true rfl) (fun Γ _ O r => kX10_gcd_s O r (fun _ _ _ _ g => g) (h (fun a4 a6 X Y => V Γ 6 [(4, .long a4), (6, .long a6)] [] X Y) (fun _ _ _ _ g => kX10_gcd_6 O r (fun _ _ _ _ g => g) g)))
theorem dX10_odds_0 : decode cX10_odds 0 = .ok (.aload_n 0, 1) := by decide +kernel
theorem dX10_odds_1 : decode cX10_odds 1 = .ok (.iload_n 1, 1) := by decide +kernel
theorem dX10_odds_2 : decode cX10_odds 2 = .ok (.invokevirtual 231, 3) := by decide +kernel
theorem dX10_odds_5 : decode cX10_odds 5 = .ok (.ifCond .ne 11, 3) := by decide +kernel
theorem dX10_odds_8 : decode cX10_odds 8 = .ok (.aload_n 0, 1) := by decide +kernel
theorem dX10_odds_9 : decode cX10_odds 9 = .ok (.iload_n 2, 1) := by decide +kernel
theorem dX10_odds_10 : decode cX10_odds 10 = .ok (.invokevirtual 136, 3) := by decide +kernel
theorem dX10_odds_13 : decode cX10_odds 13 = .ok (.ifCond .eq 7, 3) := by decide +kernel
theorem dX10_odds_16 : decode cX10_odds 16 = .ok (.ldc2_w 306, 3) := by decide +kernel
theorem dX10_odds_19 : decode cX10_odds 19 = .ok (.lreturn, 1) := by decide +kernel
theorem dX10_odds_20 : decode cX10_odds 20 = .ok (.iload_n 3, 1) := by decide +kernel
theorem dX10_odds_21 : decode cX10_odds 21 = .ok (.i2l, 1) := by decide +kernel
theorem dX10_odds_22 : decode cX10_odds 22 = .ok (.lconst 0, 1) := by decide +kernel
theorem dX10_odds_23 : decode cX10_odds 23 = .ok (.lconst 1, 1) := by decide +kernel
theorem dX10_odds_24 : decode cX10_odds 24 = .ok (.invokestatic 108, 3) := by decide +kernel
theorem dX10_odds_27 : decode cX10_odds 27 = .ok (.ifCond .ne 7, 3) := by decide +kernel
theorem dX10_odds_30 : decode cX10_odds 30 = .ok (.ldc2_w 308, 3) := by decide +kernel
theorem dX10_odds_33 : decode cX10_odds 33 = .ok (.lreturn, 1) := by decide +kernel
theorem dX10_odds_34 : decode cX10_odds 34 = .ok (.aload_n 0, 1) := by decide +kernel
theorem dX10_odds_35 : decode cX10_odds 35 = .ok (.invokevirtual 296, 3) := by decide +kernel
theorem dX10_odds_38 : decode cX10_odds 38 = .ok (.aload_n 0, 1) := by decide +kernel
theorem dX10_odds_39 : decode cX10_odds 39 = .ok (.invokevirtual 299, 3) := by decide +kernel
theorem dX10_odds_42 : decode cX10_odds 42 = .ok (.ifCond .ne 7, 3) := by decide +kernel
theorem dX10_odds_45 : decode cX10_odds 45 = .ok (.ldc2_w 310, 3) := by decide +kernel
theorem dX10_odds_48 : decode cX10_odds 48 = .ok (.lreturn, 1) := by decide +kernel
theorem dX10_odds_49 : decode cX10_odds 49 = .ok (.aload_n 0, 1) := by decide +kernel
theorem dX10_odds_50 : decode cX10_odds 50 = .ok (.getfield 278, 3) := by decide +kernel
theorem dX10_odds_53 : decode cX10_odds 53 = .ok (.ifCond .ne 7, 3) := by decide +kernel
theorem dX10_odds_56 : decode cX10_odds 56 = .ok (.ldc2_w 312, 3) := by decide +kernel
theorem dX10_odds_59 : decode cX10_odds 59 = .ok (.lreturn, 1) := by decide +kernel
theorem dX10_odds_60 : decode cX10_odds 60 = .ok (.aload_n 0, 1) := by decide +kernel
theorem dX10_odds_61 : decode cX10_odds 61 = .ok (.getfield 95, 3) := by decide +kernel
theorem dX10_odds_64 : decode cX10_odds 64 = .ok (.bipush 10, 2) := by decide +kernel
theorem dX10_odds_66 : decode cX10_odds 66 = .ok (.aload_n 0, 1) := by decide +kernel
theorem dX10_odds_67 : decode cX10_odds 67 = .ok (.iload_n 1, 1) := by decide +kernel
theorem dX10_odds_68 : decode cX10_odds 68 = .ok (.invokevirtual 303, 3) := by decide +kernel
theorem dX10_odds_71 : decode cX10_odds 71 = .ok (.imul, 1) := by decide +kernel
theorem dX10_odds_72 : decode cX10_odds 72 = .ok (.iload_n 2, 1) := by decide +kernel
theorem dX10_odds_73 : decode cX10_odds 73 = .ok (.iadd, 1) := by decide +kernel
theorem dX10_odds_74 : decode cX10_odds 74 = .ok (.laload, 1) := by decide +kernel
theorem dX10_odds_75 : decode cX10_odds 75 = .ok (.lstore 4, 2) := by decide +kernel
theorem dX10_odds_77 : decode cX10_odds 77 = .ok (.lload 4, 2) := by decide +kernel
theorem dX10_odds_79 : decode cX10_odds 79 = .ok (.aload_n 0, 1) := by decide +kernel
theorem dX10_odds_80 : decode cX10_odds 80 = .ok (.getfield 268, 3) := by decide +kernel
theorem dX10_odds_83 : decode cX10_odds 83 = .ok (.invokestatic 314, 3) := by decide +kernel
theorem dX10_odds_86 : decode cX10_odds 86 = .ok (.lstore 6, 2) := by decide +kernel
theorem dX10_odds_88 : decode cX10_odds 88 = .ok (.iload_n 3, 1) := by decide +kernel
theorem dX10_odds_89 : decode cX10_odds 89 = .ok (.ifCond .ne 11, 3) := by decide +kernel
theorem dX10_odds_92 : decode cX10_odds 92 = .ok (.lload 4, 2) := by decide +kernel
theorem dX10_odds_94 : decode cX10_odds 94 = .ok (.lload 6, 2) := by decide +kernel
theorem dX10_odds_96 : decode cX10_odds 96 = .ok (.ldiv, 1) := by decide +kernel
theorem dX10_odds_97 : decode cX10_odds 97 = .ok (.goto 10, 3) := by decide +kernel
theorem dX10_odds_100 : decode cX10_odds 100 = .ok (.aload_n 0, 1) := by decide +kernel
theorem dX10_odds_101 : decode cX10_odds 101 = .ok (.getfield 268, 3) := by decide +kernel
theorem dX10_odds_104 : decode cX10_odds 104 = .ok (.lload 6, 2) := by decide +kernel
theorem dX10_odds_106 : decode cX10_odds 106 = .ok (.ldiv, 1) := by decide +kernel
theorem dX10_odds_107 : decode cX10_odds 107 = .ok (.lreturn, 1) := by decide +kernel
def BX10_odds_s (Q : Int64 → XT → YT → Prop) (p0 : Int32) (p1 : Int32) (p2 : Int32) (X : XT) (Y : YT) : Prop :=
  PX10_noBar p0 X Y (fun r1 X2 Y3 => ((¬ r1 = 0 → Q (-1001 : Int64) X2 Y3) ∧ (r1 = 0 → PX10_noName p1 X2 Y3 (fun r6 X7 Y8 => ((r6 = 0 → PX10_in (p2.toInt64) (0 : Int64) (1 : Int64) X7 Y8 (fun r11 X12 Y13 => ((¬ r11 = 0 → PX10_begin X12 Y13 (fun X17 Y18 => PX10_goThrough X17 Y18 (fun r20 X21 Y22 => ((¬ r20 = 0 → ((¬ (X21 48 47) = 0 → PX10_posOf p0 X21 Y22 (fun r26 X27 Y28 => vp_in ((10 * r26) + p1) 200 ∧ ∀ w30 : Int64, w30 = (Y28 76 ((10 * r26) + p1).toNatClampNeg) → PX10_gcd w30 (Y28 48 48) X27 Y28 (fun r32 X33 Y34 => ((¬ p2 = 0 → ¬ r32 = 0 ∧ Q ((Y34 48 48) / r32) X33 Y34) ∧ (p2 = 0 → ¬ r32 = 0 ∧ Q (w30 / r32) X33 Y34))))) ∧ ((X21 48 47) = 0 → Q (-1003 : Int64) X21 Y22))) ∧ (r20 = 0 → Q (-1005 : Int64) X21 Y22))))) ∧ (r11 = 0 → Q (-1002 : Int64) X12 Y13)))) ∧ (¬ r6 = 0 → Q (-1001 : Int64) X7 Y8))))))
def PX10_odds (p0 : Int32) (p1 : Int32) (p2 : Int32) (X : XT) (Y : YT) (Q : Int64 → XT → YT → Prop) : Prop :=  BX10_odds_s Q p0 p1 p2 X Y
set_option maxHeartbeats 4000000 in
set_option maxRecDepth 100000 in
theorem kX10_odds_s {Γ : Cxt} {Q : Int64 → XT → YT → Prop} (O : Ok Γ RX10 cX10_odds 8 { frames := 5, cells := 0, slots := 0, locals := 116 }) (r : Ret Γ (some .long) (qL Q)) {p0 : Int32} {p1 : Int32} {p2 : Int32} {X : XT} {Y : YT} (h : BX10_odds_s Q p0 p1 p2 X Y) : V Γ 0 [(0, .ref 48), (1, .int p0), (2, .int p1), (3, .int p2)] [] X Y := by
  refine v_aload_n O dX10_odds_0 rfl 0 rfl ?_
  refine v_iload_n O dX10_odds_1 rfl 1 rfl ?_
  refine v_callV (rm' := { frames := 1, cells := 0, slots := 0, locals := 25 }) (As := [.int p0]) (st := []) O dX10_odds_2 ci_X10_noBar ml_X10_231 mi_X10_noBar sh_48 rfl ⟨rfl, rfl, (by decide), (by decide)⟩ rfl (Nat.le_of_ble_eq_true rfl) rfl (mX10_noBar h) (k_I (fun r1 X2 Y3 h4 => ?_))
  refine v_if_ne (tgt := 16) O dX10_odds_5 (by decide) (fun g5 => ?_) (fun g5 => ?_)
  · refine v_ldc2 O dX10_odds_16 kl_X10_306 ?_
    exact v_lret O r dX10_odds_19 ⟨_, rfl, (h4.1 g5)⟩
  · refine v_aload_n O dX10_odds_8 rfl 0 rfl ?_
    refine v_iload_n O dX10_odds_9 rfl 2 rfl ?_
    refine v_callV (rm' := { frames := 1, cells := 0, slots := 0, locals := 25 }) (As := [.int p1]) (st := []) O dX10_odds_10 ci_X10_noName ml_X10_136 mi_X10_noName sh_48 rfl ⟨rfl, rfl, (by decide), (by decide)⟩ rfl (Nat.le_of_ble_eq_true rfl) rfl (mX10_noName (h4.2 g5)) (k_I (fun r6 X7 Y8 h9 => ?_))
    refine v_if_eq (tgt := 20) O dX10_odds_13 (by decide) (fun g10 => ?_) (fun g10 => ?_)
    · refine v_iload_n O dX10_odds_20 rfl 3 rfl ?_
      refine v_i2l O dX10_odds_21 ?_
      refine v_lconst O dX10_odds_22 (v := 0) (by decide) ?_
      refine v_lconst O dX10_odds_23 (v := 1) (by decide) ?_
      refine v_callS (rm' := { frames := 0, cells := 0, slots := 0, locals := 0 }) (As := [.long (p2.toInt64), .long (0 : Int64), .long (1 : Int64)]) (st := []) O dX10_odds_24 ci_X10_in ml_X10_108 ms_X10_in ⟨rfl, rfl, (by decide), (by decide)⟩ rfl (Nat.le_of_ble_eq_true rfl) rfl (mX10_in (h9.1 g10)) (k_I (fun r11 X12 Y13 h14 => ?_))
      refine v_if_ne (tgt := 34) O dX10_odds_27 (by decide) (fun g15 => ?_) (fun g15 => ?_)
      · refine v_aload_n O dX10_odds_34 rfl 0 rfl ?_
        refine v_callV (rm' := { frames := 0, cells := 0, slots := 0, locals := 0 }) (As := []) (st := []) O dX10_odds_35 ci_X10_begin ml_X10_296 mi_X10_begin sh_48 rfl ⟨rfl, rfl, (by decide), (by decide)⟩ rfl (Nat.le_of_ble_eq_true rfl) rfl (mX10_begin (h14.1 g15)) (k_V (fun X17 Y18 h19 => ?_))
        refine v_aload_n O dX10_odds_38 rfl 0 rfl ?_
        refine v_callV (rm' := { frames := 4, cells := 0, slots := 0, locals := 94 }) (As := []) (st := []) O dX10_odds_39 ci_X10_goThrough ml_X10_299 mi_X10_goThrough sh_48 rfl ⟨rfl, rfl, (by decide), (by decide)⟩ rfl (Nat.le_of_ble_eq_true rfl) rfl (mX10_goThrough h19) (k_I (fun r20 X21 Y22 h23 => ?_))
        refine v_if_ne (tgt := 49) O dX10_odds_42 (by decide) (fun g24 => ?_) (fun g24 => ?_)
        · refine v_aload_n O dX10_odds_49 rfl 0 rfl ?_
          refine v_get O dX10_odds_50 fo_X10_278 sh_48 rfl rfl ?_
          refine v_if_ne (tgt := 60) O dX10_odds_53 (by decide) (fun g25 => ?_) (fun g25 => ?_)
          · refine v_aload_n O dX10_odds_60 rfl 0 rfl ?_
            refine v_get O dX10_odds_61 fo_X10_95 sh_48 rfl rfl ?_
            refine v_bipush O dX10_odds_64 kb_10 ?_
            refine v_aload_n O dX10_odds_66 rfl 0 rfl ?_
            refine v_iload_n O dX10_odds_67 rfl 1 rfl ?_
            refine v_callV (rm' := { frames := 0, cells := 0, slots := 0, locals := 0 }) (As := [.int p0]) (st := [.int 10, .ref 76]) O dX10_odds_68 ci_X10_posOf ml_X10_303 mi_X10_posOf sh_48 rfl ⟨rfl, rfl, (by decide), (by decide)⟩ rfl (Nat.le_of_ble_eq_true rfl) rfl (mX10_posOf ((h23.1 g24).1 g25)) (k_I (fun r26 X27 Y28 h29 => ?_))
            refine v_imul O dX10_odds_71 ?_
            refine v_iload_n O dX10_odds_72 rfl 2 rfl ?_
            refine v_iadd O dX10_odds_73 ?_
            refine v_lald O dX10_odds_74 sh_76 h29.1 ?_
            refine v_topl (fun w30 hw31 => ?_)
            refine v_lstore (lv' := [(4, .long w30), (0, .ref 48), (1, .int p0), (2, .int p1), (3, .int p2)]) O dX10_odds_75 (by decide) rfl ?_
            refine v_lload O dX10_odds_77 0 rfl ?_
            refine v_aload_n O dX10_odds_79 rfl 1 rfl ?_
            refine v_get O dX10_odds_80 fo_X10_268 sh_48 rfl rfl ?_
            refine v_callS (rm' := { frames := 0, cells := 0, slots := 0, locals := 0 }) (As := [.long w30, .long (Y28 48 48)]) (st := []) O dX10_odds_83 ci_X10_gcd ml_X10_314 ms_X10_gcd ⟨rfl, rfl, (by decide), (by decide)⟩ rfl (Nat.le_of_ble_eq_true rfl) rfl (mX10_gcd (h29.2 w30 hw31)) (k_L (fun r32 X33 Y34 h35 => ?_))
            refine v_lstore (lv' := [(6, .long r32), (4, .long w30), (0, .ref 48), (1, .int p0), (2, .int p1), (3, .int p2)]) O dX10_odds_86 (by decide) rfl ?_
            refine v_iload_n O dX10_odds_88 rfl 5 rfl ?_
            refine v_if_ne (tgt := 100) O dX10_odds_89 (by decide) (fun g36 => ?_) (fun g36 => ?_)
            · refine v_aload_n O dX10_odds_100 rfl 2 rfl ?_
              refine v_get O dX10_odds_101 fo_X10_268 sh_48 rfl rfl ?_
              refine v_lload O dX10_odds_104 0 rfl ?_
              refine v_ldiv O dX10_odds_106 (h35.1 g36).1 ?_
              exact v_lret O r dX10_odds_107 ⟨_, rfl, (h35.1 g36).2⟩
            · refine v_lload O dX10_odds_92 1 rfl ?_
              refine v_lload O dX10_odds_94 0 rfl ?_
              refine v_ldiv O dX10_odds_96 (h35.2 g36).1 ?_
              refine v_goto O dX10_odds_97 (tgt := 107) (by decide) ?_
              exact v_lret O r dX10_odds_107 ⟨_, rfl, (h35.2 g36).2⟩
          · refine v_ldc2 O dX10_odds_56 kl_X10_312 ?_
            exact v_lret O r dX10_odds_59 ⟨_, rfl, ((h23.1 g24).2 g25)⟩
        · refine v_ldc2 O dX10_odds_45 kl_X10_310 ?_
          exact v_lret O r dX10_odds_48 ⟨_, rfl, (h23.2 g24)⟩
      · refine v_ldc2 O dX10_odds_30 kl_X10_308 ?_
        exact v_lret O r dX10_odds_33 ⟨_, rfl, (h14.2 g15)⟩
    · refine v_ldc2 O dX10_odds_16 kl_X10_306 ?_
      exact v_lret O r dX10_odds_19 ⟨_, rfl, (h9.2 g10)⟩
set_option maxRecDepth 100000 in
theorem mX10_odds {Γ : Cxt} {p0 : Int32} {p1 : Int32} {p2 : Int32} {X : XT} {Y : YT} {Q : Int64 → XT → YT → Prop} (h : PX10_odds p0 p1 p2 X Y Q) : MT Γ yX10_odds (.code yX10_odds cX10_odds 8 (some .long) :: wl) { frames := 5, cells := 0, slots := 0, locals := 116 } [.ref 48, .int p0, .int p1, .int p2] X Y (qL Q) :=
  mt_of (by decide) (Nat.le_of_ble_eq_true rfl) (fun Γ _ O r => kX10_odds_s O r  (h ))
theorem dX10_isShown_0 : decode cX10_isShown 0 = .ok (.iconst 0, 1) := by decide +kernel
theorem dX10_isShown_1 : decode cX10_isShown 1 = .ok (.istore_n 2, 1) := by decide +kernel
theorem dX10_isShown_2 : decode cX10_isShown 2 = .ok (.iconst 0, 1) := by decide +kernel
theorem dX10_isShown_3 : decode cX10_isShown 3 = .ok (.istore_n 3, 1) := by decide +kernel
theorem dX10_isShown_4 : decode cX10_isShown 4 = .ok (.iload_n 3, 1) := by decide +kernel
theorem dX10_isShown_5 : decode cX10_isShown 5 = .ok (.aload_n 0, 1) := by decide +kernel
theorem dX10_isShown_6 : decode cX10_isShown 6 = .ok (.getfield 159, 3) := by decide +kernel
theorem dX10_isShown_9 : decode cX10_isShown 9 = .ok (.if_icmp .ge 29, 3) := by decide +kernel
theorem dX10_isShown_12 : decode cX10_isShown 12 = .ok (.iload_n 2, 1) := by decide +kernel
theorem dX10_isShown_13 : decode cX10_isShown 13 = .ok (.ifCond .ne 13, 3) := by decide +kernel
theorem dX10_isShown_16 : decode cX10_isShown 16 = .ok (.aload_n 0, 1) := by decide +kernel
theorem dX10_isShown_17 : decode cX10_isShown 17 = .ok (.getfield 49, 3) := by decide +kernel
theorem dX10_isShown_20 : decode cX10_isShown 20 = .ok (.iload_n 3, 1) := by decide +kernel
theorem dX10_isShown_21 : decode cX10_isShown 21 = .ok (.iaload, 1) := by decide +kernel
theorem dX10_isShown_22 : decode cX10_isShown 22 = .ok (.iload_n 1, 1) := by decide +kernel
theorem dX10_isShown_23 : decode cX10_isShown 23 = .ok (.if_icmp .ne 7, 3) := by decide +kernel
theorem dX10_isShown_26 : decode cX10_isShown 26 = .ok (.iconst 1, 1) := by decide +kernel
theorem dX10_isShown_27 : decode cX10_isShown 27 = .ok (.goto 4, 3) := by decide +kernel
theorem dX10_isShown_30 : decode cX10_isShown 30 = .ok (.iconst 0, 1) := by decide +kernel
theorem dX10_isShown_31 : decode cX10_isShown 31 = .ok (.istore_n 2, 1) := by decide +kernel
theorem dX10_isShown_32 : decode cX10_isShown 32 = .ok (.iinc 3 1, 3) := by decide +kernel
theorem dX10_isShown_35 : decode cX10_isShown 35 = .ok (.goto (-31), 3) := by decide +kernel
theorem dX10_isShown_38 : decode cX10_isShown 38 = .ok (.iload_n 2, 1) := by decide +kernel
theorem dX10_isShown_39 : decode cX10_isShown 39 = .ok (.ireturn, 1) := by decide +kernel
def BX10_isShown_4 (I4 : Int32 → Int32 → Int32 → XT → YT → Prop) (Q : Int32 → XT → YT → Prop) (a1 : Int32) (a2 : Int32) (a3 : Int32) (X : XT) (Y : YT) : Prop :=
  (((X 48 16) ≤ a3 → narrow .boolean (.int a2) = .int a2 ∧ Q a2 X Y) ∧ (¬ (X 48 16) ≤ a3 → ((¬ a2 = 0 → ∀ w3 : Int32, w3 = a3 + 1 → I4 a1 1 w3 X Y) ∧ (a2 = 0 → vp_in a3 32 ∧ ((¬ (X 62 a3.toNatClampNeg) = a1 → ∀ w6 : Int32, w6 = a3 + 1 → I4 a1 0 w6 X Y) ∧ ((X 62 a3.toNatClampNeg) = a1 → ∀ w8 : Int32, w8 = a3 + 1 → I4 a1 1 w8 X Y))))))
def BX10_isShown_s (I4 : Int32 → Int32 → Int32 → XT → YT → Prop) (Q : Int32 → XT → YT → Prop) (p0 : Int32) (X : XT) (Y : YT) : Prop :=
  I4 p0 0 0 X Y
def PX10_isShown (p0 : Int32) (X : XT) (Y : YT) (Q : Int32 → XT → YT → Prop) : Prop := ∀ (I4 : Int32 → Int32 → Int32 → XT → YT → Prop), (∀ (a1 : Int32) (a2 : Int32) (a3 : Int32) (X : XT) (Y : YT), BX10_isShown_4 I4 Q a1 a2 a3 X Y → I4 a1 a2 a3 X Y) → BX10_isShown_s I4 Q p0 X Y
set_option maxHeartbeats 4000000 in
set_option maxRecDepth 100000 in
theorem kX10_isShown_4 {Γ : Cxt} {Q : Int32 → XT → YT → Prop} (O : Ok Γ RX10 cX10_isShown 4 { frames := 0, cells := 0, slots := 0, locals := 0 }) (r : Ret Γ (some .boolean) (qI Q)) {I4 : Int32 → Int32 → Int32 → XT → YT → Prop} (e4 : ∀ (a1 : Int32) (a2 : Int32) (a3 : Int32) (X : XT) (Y : YT), I4 a1 a2 a3 X Y → V Γ 4 [(0, .ref 48), (1, .int a1), (2, .int a2), (3, .int a3)] [] X Y) {a1 : Int32} {a2 : Int32} {a3 : Int32} {X : XT} {Y : YT} (h : BX10_isShown_4 I4 Q a1 a2 a3 X Y) : V Γ 4 [(0, .ref 48), (1, .int a1), (2, .int a2), (3, .int a3)] [] X Y := by
  refine v_iload_n O dX10_isShown_4 rfl 3 rfl ?_
  refine v_aload_n O dX10_isShown_5 rfl 0 rfl ?_
  refine v_get O dX10_isShown_6 fo_X10_159 sh_48 rfl rfl ?_
  refine v_icmp_ge (tgt := 38) O dX10_isShown_9 (by decide) (fun g1 => ?_) (fun g1 => ?_)
  · refine v_iload_n O dX10_isShown_38 rfl 2 rfl ?_
    exact v_zret O r dX10_isShown_39 (h.1 g1).1 ⟨_, rfl, (h.1 g1).2⟩
  · refine v_iload_n O dX10_isShown_12 rfl 2 rfl ?_
    refine v_if_ne (tgt := 26) O dX10_isShown_13 (by decide) (fun g2 => ?_) (fun g2 => ?_)
    · refine v_iconst O dX10_isShown_26 kc_1 ?_
      refine v_goto O dX10_isShown_27 (tgt := 31) (by decide) ?_
      refine v_istore_n (lv' := [(2, .int 1), (0, .ref 48), (1, .int a1), (3, .int a3)]) O dX10_isShown_31 rfl (by decide) rfl ?_
      obtain ⟨w3, hw4⟩ : ∃ y : Int32, y = a3 + 1 := ⟨_, rfl⟩
      refine v_iinc (v := w3) (j := 3) O dX10_isShown_32 rfl (by rw [hw4]; exact congrArg _ kc_1) (by decide) (lv' := [(3, .int w3), (2, .int 1), (0, .ref 48), (1, .int a1)]) rfl ?_
      refine v_goto O dX10_isShown_35 (tgt := 4) (by decide) ?_
      exact v_loc [2, 3, 1, 0] rfl (e4 a1 1 w3 X Y (((h.2 g1).1 g2) w3 hw4))
    · refine v_aload_n O dX10_isShown_16 rfl 0 rfl ?_
      refine v_get O dX10_isShown_17 fo_X10_49 sh_48 rfl rfl ?_
      refine v_iload_n O dX10_isShown_20 rfl 3 rfl ?_
      refine v_iald O dX10_isShown_21 sh_62 ((h.2 g1).2 g2).1 ?_
      refine v_iload_n O dX10_isShown_22 rfl 1 rfl ?_
      refine v_icmp_ne (tgt := 30) O dX10_isShown_23 (by decide) (fun g5 => ?_) (fun g5 => ?_)
      · refine v_iconst O dX10_isShown_30 kc_0 ?_
        refine v_istore_n (lv' := [(2, .int 0), (0, .ref 48), (1, .int a1), (3, .int a3)]) O dX10_isShown_31 rfl (by decide) rfl ?_
        obtain ⟨w6, hw7⟩ : ∃ y : Int32, y = a3 + 1 := ⟨_, rfl⟩
        refine v_iinc (v := w6) (j := 3) O dX10_isShown_32 rfl (by rw [hw7]; exact congrArg _ kc_1) (by decide) (lv' := [(3, .int w6), (2, .int 0), (0, .ref 48), (1, .int a1)]) rfl ?_
        refine v_goto O dX10_isShown_35 (tgt := 4) (by decide) ?_
        exact v_loc [2, 3, 1, 0] rfl (e4 a1 0 w6 X Y ((((h.2 g1).2 g2).2.1 g5) w6 hw7))
      · refine v_iconst O dX10_isShown_26 kc_1 ?_
        refine v_goto O dX10_isShown_27 (tgt := 31) (by decide) ?_
        refine v_istore_n (lv' := [(2, .int 1), (0, .ref 48), (1, .int a1), (3, .int a3)]) O dX10_isShown_31 rfl (by decide) rfl ?_
        obtain ⟨w8, hw9⟩ : ∃ y : Int32, y = a3 + 1 := ⟨_, rfl⟩
        refine v_iinc (v := w8) (j := 3) O dX10_isShown_32 rfl (by rw [hw9]; exact congrArg _ kc_1) (by decide) (lv' := [(3, .int w8), (2, .int 1), (0, .ref 48), (1, .int a1)]) rfl ?_
        refine v_goto O dX10_isShown_35 (tgt := 4) (by decide) ?_
        exact v_loc [2, 3, 1, 0] rfl (e4 a1 1 w8 X Y ((((h.2 g1).2 g2).2.2 g5) w8 hw9))
set_option maxHeartbeats 4000000 in
set_option maxRecDepth 100000 in
theorem kX10_isShown_s {Γ : Cxt} {Q : Int32 → XT → YT → Prop} (O : Ok Γ RX10 cX10_isShown 4 { frames := 0, cells := 0, slots := 0, locals := 0 }) (r : Ret Γ (some .boolean) (qI Q)) {I4 : Int32 → Int32 → Int32 → XT → YT → Prop} (e4 : ∀ (a1 : Int32) (a2 : Int32) (a3 : Int32) (X : XT) (Y : YT), I4 a1 a2 a3 X Y → V Γ 4 [(0, .ref 48), (1, .int a1), (2, .int a2), (3, .int a3)] [] X Y) {p0 : Int32} {X : XT} {Y : YT} (h : BX10_isShown_s I4 Q p0 X Y) : V Γ 0 [(0, .ref 48), (1, .int p0)] [] X Y := by
  refine v_iconst O dX10_isShown_0 kc_0 ?_
  refine v_istore_n (lv' := [(2, .int 0), (0, .ref 48), (1, .int p0)]) O dX10_isShown_1 rfl (by decide) rfl ?_
  refine v_iconst O dX10_isShown_2 kc_0 ?_
  refine v_istore_n (lv' := [(3, .int 0), (2, .int 0), (0, .ref 48), (1, .int p0)]) O dX10_isShown_3 rfl (by decide) rfl ?_
  exact v_loc [2, 3, 1, 0] rfl (e4 p0 0 0 X Y h)
set_option maxRecDepth 100000 in
theorem mX10_isShown {Γ : Cxt} {p0 : Int32} {X : XT} {Y : YT} {Q : Int32 → XT → YT → Prop} (h : PX10_isShown p0 X Y Q) : MT Γ yX10_isShown (.code yX10_isShown cX10_isShown 4 (some .boolean) :: wl) { frames := 0, cells := 0, slots := 0, locals := 0 } [.ref 48, .int p0] X Y (qI Q) :=
  mt_of (by decide) (Nat.le_of_ble_eq_true rfl) (fun Γ _ O r => kX10_isShown_s O r (fun _ _ _ _ _ g => g) (h (fun a1 a2 a3 X Y => V Γ 4 [(0, .ref 48), (1, .int a1), (2, .int a2), (3, .int a3)] [] X Y) (fun _ _ _ _ _ g => kX10_isShown_4 O r (fun _ _ _ _ _ g => g) g)))
theorem dX10_on_0 : decode cX10_on 0 = .ok (.aload_n 0, 1) := by decide +kernel
theorem dX10_on_1 : decode cX10_on 1 = .ok (.iload_n 1, 1) := by decide +kernel
theorem dX10_on_2 : decode cX10_on 2 = .ok (.invokevirtual 136, 3) := by decide +kernel
theorem dX10_on_5 : decode cX10_on 5 = .ok (.ifCond .eq 7, 3) := by decide +kernel
theorem dX10_on_8 : decode cX10_on 8 = .ok (.sipush (-1001), 3) := by decide +kernel
theorem dX10_on_11 : decode cX10_on 11 = .ok (.ireturn, 1) := by decide +kernel
theorem dX10_on_12 : decode cX10_on 12 = .ok (.aload_n 0, 1) := by decide +kernel
theorem dX10_on_13 : decode cX10_on 13 = .ok (.iload_n 1, 1) := by decide +kernel
theorem dX10_on_14 : decode cX10_on 14 = .ok (.invokevirtual 318, 3) := by decide +kernel
theorem dX10_on_17 : decode cX10_on 17 = .ok (.ifCond .eq 5, 3) := by decide +kernel
theorem dX10_on_20 : decode cX10_on 20 = .ok (.iconst 2, 1) := by decide +kernel
theorem dX10_on_21 : decode cX10_on 21 = .ok (.ireturn, 1) := by decide +kernel
theorem dX10_on_22 : decode cX10_on 22 = .ok (.aload_n 0, 1) := by decide +kernel
theorem dX10_on_23 : decode cX10_on 23 = .ok (.invokevirtual 296, 3) := by decide +kernel
theorem dX10_on_26 : decode cX10_on 26 = .ok (.aload_n 0, 1) := by decide +kernel
theorem dX10_on_27 : decode cX10_on 27 = .ok (.invokevirtual 299, 3) := by decide +kernel
theorem dX10_on_30 : decode cX10_on 30 = .ok (.ifCond .ne 7, 3) := by decide +kernel
theorem dX10_on_33 : decode cX10_on 33 = .ok (.sipush (-1005), 3) := by decide +kernel
theorem dX10_on_36 : decode cX10_on 36 = .ok (.ireturn, 1) := by decide +kernel
theorem dX10_on_37 : decode cX10_on 37 = .ok (.aload_n 0, 1) := by decide +kernel
theorem dX10_on_38 : decode cX10_on 38 = .ok (.getfield 278, 3) := by decide +kernel
theorem dX10_on_41 : decode cX10_on 41 = .ok (.ifCond .le 19, 3) := by decide +kernel
theorem dX10_on_44 : decode cX10_on 44 = .ok (.aload_n 0, 1) := by decide +kernel
theorem dX10_on_45 : decode cX10_on 45 = .ok (.getfield 272, 3) := by decide +kernel
theorem dX10_on_48 : decode cX10_on 48 = .ok (.iload_n 1, 1) := by decide +kernel
theorem dX10_on_49 : decode cX10_on 49 = .ok (.ishr, 1) := by decide +kernel
theorem dX10_on_50 : decode cX10_on 50 = .ok (.iconst 1, 1) := by decide +kernel
theorem dX10_on_51 : decode cX10_on 51 = .ok (.iand, 1) := by decide +kernel
theorem dX10_on_52 : decode cX10_on 52 = .ok (.iconst 1, 1) := by decide +kernel
theorem dX10_on_53 : decode cX10_on 53 = .ok (.if_icmp .ne 7, 3) := by decide +kernel
theorem dX10_on_56 : decode cX10_on 56 = .ok (.iconst 2, 1) := by decide +kernel
theorem dX10_on_57 : decode cX10_on 57 = .ok (.goto 11, 3) := by decide +kernel
theorem dX10_on_60 : decode cX10_on 60 = .ok (.aload_n 0, 1) := by decide +kernel
theorem dX10_on_61 : decode cX10_on 61 = .ok (.getfield 275, 3) := by decide +kernel
theorem dX10_on_64 : decode cX10_on 64 = .ok (.iload_n 1, 1) := by decide +kernel
theorem dX10_on_65 : decode cX10_on 65 = .ok (.ishr, 1) := by decide +kernel
theorem dX10_on_66 : decode cX10_on 66 = .ok (.iconst 1, 1) := by decide +kernel
theorem dX10_on_67 : decode cX10_on 67 = .ok (.iand, 1) := by decide +kernel
theorem dX10_on_68 : decode cX10_on 68 = .ok (.ireturn, 1) := by decide +kernel
def BX10_on_s (Q : Int32 → XT → YT → Prop) (p0 : Int32) (X : XT) (Y : YT) : Prop :=
  PX10_noName p0 X Y (fun r1 X2 Y3 => ((r1 = 0 → PX10_isShown p0 X2 Y3 (fun r6 X7 Y8 => ((r6 = 0 → PX10_begin X7 Y8 (fun X12 Y13 => PX10_goThrough X12 Y13 (fun r15 X16 Y17 => ((¬ r15 = 0 → (((X16 48 47) ≤ 0 → Q (((X16 48 52) >>> (p0 &&& 31)) &&& 1) X16 Y17) ∧ (¬ (X16 48 47) ≤ 0 → ((¬ (((X16 48 51) >>> (p0 &&& 31)) &&& 1) = 1 → Q (((X16 48 52) >>> (p0 &&& 31)) &&& 1) X16 Y17) ∧ ((((X16 48 51) >>> (p0 &&& 31)) &&& 1) = 1 → Q 2 X16 Y17))))) ∧ (r15 = 0 → Q (-1005) X16 Y17))))) ∧ (¬ r6 = 0 → Q 2 X7 Y8)))) ∧ (¬ r1 = 0 → Q (-1001) X2 Y3)))
def PX10_on (p0 : Int32) (X : XT) (Y : YT) (Q : Int32 → XT → YT → Prop) : Prop :=  BX10_on_s Q p0 X Y
set_option maxHeartbeats 4000000 in
set_option maxRecDepth 100000 in
theorem kX10_on_s {Γ : Cxt} {Q : Int32 → XT → YT → Prop} (O : Ok Γ RX10 cX10_on 2 { frames := 5, cells := 0, slots := 0, locals := 116 }) (r : Ret Γ (some .int) (qI Q)) {p0 : Int32} {X : XT} {Y : YT} (h : BX10_on_s Q p0 X Y) : V Γ 0 [(0, .ref 48), (1, .int p0)] [] X Y := by
  refine v_aload_n O dX10_on_0 rfl 0 rfl ?_
  refine v_iload_n O dX10_on_1 rfl 1 rfl ?_
  refine v_callV (rm' := { frames := 1, cells := 0, slots := 0, locals := 25 }) (As := [.int p0]) (st := []) O dX10_on_2 ci_X10_noName ml_X10_136 mi_X10_noName sh_48 rfl ⟨rfl, rfl, (by decide), (by decide)⟩ rfl (Nat.le_of_ble_eq_true rfl) rfl (mX10_noName h) (k_I (fun r1 X2 Y3 h4 => ?_))
  refine v_if_eq (tgt := 12) O dX10_on_5 (by decide) (fun g5 => ?_) (fun g5 => ?_)
  · refine v_aload_n O dX10_on_12 rfl 0 rfl ?_
    refine v_iload_n O dX10_on_13 rfl 1 rfl ?_
    refine v_callV (rm' := { frames := 0, cells := 0, slots := 0, locals := 0 }) (As := [.int p0]) (st := []) O dX10_on_14 ci_X10_isShown ml_X10_318 mi_X10_isShown sh_48 rfl ⟨rfl, rfl, (by decide), (by decide)⟩ rfl (Nat.le_of_ble_eq_true rfl) rfl (mX10_isShown (h4.1 g5)) (k_I (fun r6 X7 Y8 h9 => ?_))
    refine v_if_eq (tgt := 22) O dX10_on_17 (by decide) (fun g10 => ?_) (fun g10 => ?_)
    · refine v_aload_n O dX10_on_22 rfl 0 rfl ?_
      refine v_callV (rm' := { frames := 0, cells := 0, slots := 0, locals := 0 }) (As := []) (st := []) O dX10_on_23 ci_X10_begin ml_X10_296 mi_X10_begin sh_48 rfl ⟨rfl, rfl, (by decide), (by decide)⟩ rfl (Nat.le_of_ble_eq_true rfl) rfl (mX10_begin (h9.1 g10)) (k_V (fun X12 Y13 h14 => ?_))
      refine v_aload_n O dX10_on_26 rfl 0 rfl ?_
      refine v_callV (rm' := { frames := 4, cells := 0, slots := 0, locals := 94 }) (As := []) (st := []) O dX10_on_27 ci_X10_goThrough ml_X10_299 mi_X10_goThrough sh_48 rfl ⟨rfl, rfl, (by decide), (by decide)⟩ rfl (Nat.le_of_ble_eq_true rfl) rfl (mX10_goThrough h14) (k_I (fun r15 X16 Y17 h18 => ?_))
      refine v_if_ne (tgt := 37) O dX10_on_30 (by decide) (fun g19 => ?_) (fun g19 => ?_)
      · refine v_aload_n O dX10_on_37 rfl 0 rfl ?_
        refine v_get O dX10_on_38 fo_X10_278 sh_48 rfl rfl ?_
        refine v_if_le (tgt := 60) O dX10_on_41 (by decide) (fun g20 => ?_) (fun g20 => ?_)
        · refine v_aload_n O dX10_on_60 rfl 0 rfl ?_
          refine v_get O dX10_on_61 fo_X10_275 sh_48 rfl rfl ?_
          refine v_iload_n O dX10_on_64 rfl 1 rfl ?_
          refine v_ishr O dX10_on_65 ?_
          refine v_iconst O dX10_on_66 kc_1 ?_
          refine v_iand O dX10_on_67 ?_
          exact v_iret O r dX10_on_68 ⟨_, rfl, ((h18.1 g19).1 g20)⟩
        · refine v_aload_n O dX10_on_44 rfl 0 rfl ?_
          refine v_get O dX10_on_45 fo_X10_272 sh_48 rfl rfl ?_
          refine v_iload_n O dX10_on_48 rfl 1 rfl ?_
          refine v_ishr O dX10_on_49 ?_
          refine v_iconst O dX10_on_50 kc_1 ?_
          refine v_iand O dX10_on_51 ?_
          refine v_iconst O dX10_on_52 kc_1 ?_
          refine v_icmp_ne (tgt := 60) O dX10_on_53 (by decide) (fun g21 => ?_) (fun g21 => ?_)
          · refine v_aload_n O dX10_on_60 rfl 0 rfl ?_
            refine v_get O dX10_on_61 fo_X10_275 sh_48 rfl rfl ?_
            refine v_iload_n O dX10_on_64 rfl 1 rfl ?_
            refine v_ishr O dX10_on_65 ?_
            refine v_iconst O dX10_on_66 kc_1 ?_
            refine v_iand O dX10_on_67 ?_
            exact v_iret O r dX10_on_68 ⟨_, rfl, (((h18.1 g19).2 g20).1 g21)⟩
          · refine v_iconst O dX10_on_56 kc_2 ?_
            refine v_goto O dX10_on_57 (tgt := 68) (by decide) ?_
            exact v_iret O r dX10_on_68 ⟨_, rfl, (((h18.1 g19).2 g20).2 g21)⟩
      · refine v_sipush O dX10_on_33 ks_m1005 ?_
        exact v_iret O r dX10_on_36 ⟨_, rfl, (h18.2 g19)⟩
    · refine v_iconst O dX10_on_20 kc_2 ?_
      exact v_iret O r dX10_on_21 ⟨_, rfl, (h9.2 g10)⟩
  · refine v_sipush O dX10_on_8 ks_m1001 ?_
    exact v_iret O r dX10_on_11 ⟨_, rfl, (h4.2 g5)⟩
set_option maxRecDepth 100000 in
theorem mX10_on {Γ : Cxt} {p0 : Int32} {X : XT} {Y : YT} {Q : Int32 → XT → YT → Prop} (h : PX10_on p0 X Y Q) : MT Γ yX10_on (.code yX10_on cX10_on 2 (some .int) :: wl) { frames := 5, cells := 0, slots := 0, locals := 116 } [.ref 48, .int p0] X Y (qI Q) :=
  mt_of (by decide) (Nat.le_of_ble_eq_true rfl) (fun Γ _ O r => kX10_on_s O r  (h ))
theorem dX10_isReader_0 : decode cX10_isReader 0 = .ok (.iload_n 0, 1) := by decide +kernel
theorem dX10_isReader_1 : decode cX10_isReader 1 = .ok (.i2l, 1) := by decide +kernel
theorem dX10_isReader_2 : decode cX10_isReader 2 = .ok (.lconst 0, 1) := by decide +kernel
theorem dX10_isReader_3 : decode cX10_isReader 3 = .ok (.ldc2_w 321, 3) := by decide +kernel
theorem dX10_isReader_6 : decode cX10_isReader 6 = .ok (.invokestatic 108, 3) := by decide +kernel
theorem dX10_isReader_9 : decode cX10_isReader 9 = .ok (.ireturn, 1) := by decide +kernel
def BX10_isReader_s (Q : Int32 → XT → YT → Prop) (p0 : Int32) (X : XT) (Y : YT) : Prop :=
  PX10_in (p0.toInt64) (0 : Int64) (3 : Int64) X Y (fun r1 X2 Y3 => narrow .boolean (.int r1) = .int r1 ∧ Q r1 X2 Y3)
def PX10_isReader (p0 : Int32) (X : XT) (Y : YT) (Q : Int32 → XT → YT → Prop) : Prop :=  BX10_isReader_s Q p0 X Y
set_option maxHeartbeats 4000000 in
set_option maxRecDepth 100000 in
theorem kX10_isReader_s {Γ : Cxt} {Q : Int32 → XT → YT → Prop} (O : Ok Γ RX10 cX10_isReader 1 { frames := 1, cells := 0, slots := 0, locals := 25 }) (r : Ret Γ (some .boolean) (qI Q)) {p0 : Int32} {X : XT} {Y : YT} (h : BX10_isReader_s Q p0 X Y) : V Γ 0 [(0, .int p0)] [] X Y := by
  refine v_iload_n O dX10_isReader_0 rfl 0 rfl ?_
  refine v_i2l O dX10_isReader_1 ?_
  refine v_lconst O dX10_isReader_2 (v := 0) (by decide) ?_
  refine v_ldc2 O dX10_isReader_3 kl_X10_321 ?_
  refine v_callS (rm' := { frames := 0, cells := 0, slots := 0, locals := 0 }) (As := [.long (p0.toInt64), .long (0 : Int64), .long (3 : Int64)]) (st := []) O dX10_isReader_6 ci_X10_in ml_X10_108 ms_X10_in ⟨rfl, rfl, (by decide), (by decide)⟩ rfl (Nat.le_of_ble_eq_true rfl) rfl (mX10_in h) (k_I (fun r1 X2 Y3 h4 => ?_))
  exact v_zret O r dX10_isReader_9 h4.1 ⟨_, rfl, h4.2⟩
set_option maxRecDepth 100000 in
theorem mX10_isReader {Γ : Cxt} {p0 : Int32} {X : XT} {Y : YT} {Q : Int32 → XT → YT → Prop} (h : PX10_isReader p0 X Y Q) : MT Γ yX10_isReader (.code yX10_isReader cX10_isReader 1 (some .boolean) :: wl) { frames := 1, cells := 0, slots := 0, locals := 25 } [.int p0] X Y (qI Q) :=
  mt_of (by decide) (Nat.le_of_ble_eq_true rfl) (fun Γ _ O r => kX10_isReader_s O r  (h ))
theorem dX10_away_0 : decode cX10_away 0 = .ok (.iload_n 1, 1) := by decide +kernel
theorem dX10_away_1 : decode cX10_away 1 = .ok (.invokestatic 323, 3) := by decide +kernel
theorem dX10_away_4 : decode cX10_away 4 = .ok (.ifCond .eq 11, 3) := by decide +kernel
theorem dX10_away_7 : decode cX10_away 7 = .ok (.aload_n 0, 1) := by decide +kernel
theorem dX10_away_8 : decode cX10_away 8 = .ok (.iload_n 2, 1) := by decide +kernel
theorem dX10_away_9 : decode cX10_away 9 = .ok (.invokevirtual 326, 3) := by decide +kernel
theorem dX10_away_12 : decode cX10_away 12 = .ok (.ifCond .eq 7, 3) := by decide +kernel
theorem dX10_away_15 : decode cX10_away 15 = .ok (.sipush (-1001), 3) := by decide +kernel
theorem dX10_away_18 : decode cX10_away 18 = .ok (.ireturn, 1) := by decide +kernel
theorem dX10_away_19 : decode cX10_away 19 = .ok (.aload_n 0, 1) := by decide +kernel
theorem dX10_away_20 : decode cX10_away 20 = .ok (.getfield 102, 3) := by decide +kernel
theorem dX10_away_23 : decode cX10_away 23 = .ok (.iload_n 1, 1) := by decide +kernel
theorem dX10_away_24 : decode cX10_away 24 = .ok (.iaload, 1) := by decide +kernel
theorem dX10_away_25 : decode cX10_away 25 = .ok (.istore_n 3, 1) := by decide +kernel
theorem dX10_away_26 : decode cX10_away 26 = .ok (.aload_n 0, 1) := by decide +kernel
theorem dX10_away_27 : decode cX10_away 27 = .ok (.getfield 102, 3) := by decide +kernel
theorem dX10_away_30 : decode cX10_away 30 = .ok (.iload_n 1, 1) := by decide +kernel
theorem dX10_away_31 : decode cX10_away 31 = .ok (.iload_n 2, 1) := by decide +kernel
theorem dX10_away_32 : decode cX10_away 32 = .ok (.iastore, 1) := by decide +kernel
theorem dX10_away_33 : decode cX10_away 33 = .ok (.iload_n 3, 1) := by decide +kernel
theorem dX10_away_34 : decode cX10_away 34 = .ok (.ireturn, 1) := by decide +kernel
def BX10_away_s (Q : Int32 → XT → YT → Prop) (p0 : Int32) (p1 : Int32) (X : XT) (Y : YT) : Prop :=
  PX10_isReader p0 X Y (fun r1 X2 Y3 => ((r1 = 0 → Q (-1001) X2 Y3) ∧ (¬ r1 = 0 → PX10_noSet p1 X2 Y3 (fun r6 X7 Y8 => ((r6 = 0 → vp_in p0 4 ∧ ∀ w11 : Int32, w11 = (X7 78 p0.toNatClampNeg) → vp_in p0 4 ∧ Q w11 (sX X7 78 p0.toNatClampNeg p1) Y8) ∧ (¬ r6 = 0 → Q (-1001) X7 Y8))))))
def PX10_away (p0 : Int32) (p1 : Int32) (X : XT) (Y : YT) (Q : Int32 → XT → YT → Prop) : Prop :=  BX10_away_s Q p0 p1 X Y
set_option maxHeartbeats 4000000 in
set_option maxRecDepth 100000 in
theorem kX10_away_s {Γ : Cxt} {Q : Int32 → XT → YT → Prop} (O : Ok Γ RX10 cX10_away 4 { frames := 2, cells := 0, slots := 0, locals := 46 }) (r : Ret Γ (some .int) (qI Q)) {p0 : Int32} {p1 : Int32} {X : XT} {Y : YT} (h : BX10_away_s Q p0 p1 X Y) : V Γ 0 [(0, .ref 48), (1, .int p0), (2, .int p1)] [] X Y := by
  refine v_iload_n O dX10_away_0 rfl 1 rfl ?_
  refine v_callS (rm' := { frames := 1, cells := 0, slots := 0, locals := 25 }) (As := [.int p0]) (st := []) O dX10_away_1 ci_X10_isReader ml_X10_323 ms_X10_isReader ⟨rfl, rfl, (by decide), (by decide)⟩ rfl (Nat.le_of_ble_eq_true rfl) rfl (mX10_isReader h) (k_I (fun r1 X2 Y3 h4 => ?_))
  refine v_if_eq (tgt := 15) O dX10_away_4 (by decide) (fun g5 => ?_) (fun g5 => ?_)
  · refine v_sipush O dX10_away_15 ks_m1001 ?_
    exact v_iret O r dX10_away_18 ⟨_, rfl, (h4.1 g5)⟩
  · refine v_aload_n O dX10_away_7 rfl 0 rfl ?_
    refine v_iload_n O dX10_away_8 rfl 2 rfl ?_
    refine v_callV (rm' := { frames := 1, cells := 0, slots := 0, locals := 25 }) (As := [.int p1]) (st := []) O dX10_away_9 ci_X10_noSet ml_X10_326 mi_X10_noSet sh_48 rfl ⟨rfl, rfl, (by decide), (by decide)⟩ rfl (Nat.le_of_ble_eq_true rfl) rfl (mX10_noSet (h4.2 g5)) (k_I (fun r6 X7 Y8 h9 => ?_))
    refine v_if_eq (tgt := 19) O dX10_away_12 (by decide) (fun g10 => ?_) (fun g10 => ?_)
    · refine v_aload_n O dX10_away_19 rfl 0 rfl ?_
      refine v_get O dX10_away_20 fo_X10_102 sh_48 rfl rfl ?_
      refine v_iload_n O dX10_away_23 rfl 1 rfl ?_
      refine v_iald O dX10_away_24 sh_78 (h9.1 g10).1 ?_
      refine v_topi (fun w11 hw12 => ?_)
      refine v_istore_n (lv' := [(3, .int w11), (0, .ref 48), (1, .int p0), (2, .int p1)]) O dX10_away_25 rfl (by decide) rfl ?_
      refine v_aload_n O dX10_away_26 rfl 1 rfl ?_
      refine v_get O dX10_away_27 fo_X10_102 sh_48 rfl rfl ?_
      refine v_iload_n O dX10_away_30 rfl 2 rfl ?_
      refine v_iload_n O dX10_away_31 rfl 3 rfl ?_
      refine v_iast O dX10_away_32 sh_78 ((h9.1 g10).2 w11 hw12).1 ?_
      refine v_iload_n O dX10_away_33 rfl 0 rfl ?_
      exact v_iret O r dX10_away_34 ⟨_, rfl, ((h9.1 g10).2 w11 hw12).2⟩
    · refine v_sipush O dX10_away_15 ks_m1001 ?_
      exact v_iret O r dX10_away_18 ⟨_, rfl, (h9.2 g10)⟩
set_option maxRecDepth 100000 in
theorem mX10_away {Γ : Cxt} {p0 : Int32} {p1 : Int32} {X : XT} {Y : YT} {Q : Int32 → XT → YT → Prop} (h : PX10_away p0 p1 X Y Q) : MT Γ yX10_away (.code yX10_away cX10_away 4 (some .int) :: wl) { frames := 2, cells := 0, slots := 0, locals := 46 } [.ref 48, .int p0, .int p1] X Y (qI Q) :=
  mt_of (by decide) (Nat.le_of_ble_eq_true rfl) (fun Γ _ O r => kX10_away_s O r  (h ))
theorem dX10_knows_0 : decode cX10_knows 0 = .ok (.iload_n 1, 1) := by decide +kernel
theorem dX10_knows_1 : decode cX10_knows 1 = .ok (.invokestatic 323, 3) := by decide +kernel
theorem dX10_knows_4 : decode cX10_knows 4 = .ok (.ifCond .eq 24, 3) := by decide +kernel
theorem dX10_knows_7 : decode cX10_knows 7 = .ok (.aload_n 0, 1) := by decide +kernel
theorem dX10_knows_8 : decode cX10_knows 8 = .ok (.iload_n 2, 1) := by decide +kernel
theorem dX10_knows_9 : decode cX10_knows 9 = .ok (.invokevirtual 231, 3) := by decide +kernel
theorem dX10_knows_12 : decode cX10_knows 12 = .ok (.ifCond .ne 16, 3) := by decide +kernel
theorem dX10_knows_15 : decode cX10_knows 15 = .ok (.iload_n 3, 1) := by decide +kernel
theorem dX10_knows_16 : decode cX10_knows 16 = .ok (.iconst (-1), 1) := by decide +kernel
theorem dX10_knows_17 : decode cX10_knows 17 = .ok (.if_icmp .eq 15, 3) := by decide +kernel
theorem dX10_knows_20 : decode cX10_knows 20 = .ok (.aload_n 0, 1) := by decide +kernel
theorem dX10_knows_21 : decode cX10_knows 21 = .ok (.iload_n 3, 1) := by decide +kernel
theorem dX10_knows_22 : decode cX10_knows 22 = .ok (.invokevirtual 136, 3) := by decide +kernel
theorem dX10_knows_25 : decode cX10_knows 25 = .ok (.ifCond .eq 7, 3) := by decide +kernel
theorem dX10_knows_28 : decode cX10_knows 28 = .ok (.sipush (-1001), 3) := by decide +kernel
theorem dX10_knows_31 : decode cX10_knows 31 = .ok (.ireturn, 1) := by decide +kernel
theorem dX10_knows_32 : decode cX10_knows 32 = .ok (.aload_n 0, 1) := by decide +kernel
theorem dX10_knows_33 : decode cX10_knows 33 = .ok (.getfield 105, 3) := by decide +kernel
theorem dX10_knows_36 : decode cX10_knows 36 = .ok (.bipush 10, 2) := by decide +kernel
theorem dX10_knows_38 : decode cX10_knows 38 = .ok (.iload_n 1, 1) := by decide +kernel
theorem dX10_knows_39 : decode cX10_knows 39 = .ok (.imul, 1) := by decide +kernel
theorem dX10_knows_40 : decode cX10_knows 40 = .ok (.iload_n 2, 1) := by decide +kernel
theorem dX10_knows_41 : decode cX10_knows 41 = .ok (.iadd, 1) := by decide +kernel
theorem dX10_knows_42 : decode cX10_knows 42 = .ok (.iaload, 1) := by decide +kernel
theorem dX10_knows_43 : decode cX10_knows 43 = .ok (.istore 4, 2) := by decide +kernel
theorem dX10_knows_45 : decode cX10_knows 45 = .ok (.aload_n 0, 1) := by decide +kernel
theorem dX10_knows_46 : decode cX10_knows 46 = .ok (.getfield 105, 3) := by decide +kernel
theorem dX10_knows_49 : decode cX10_knows 49 = .ok (.bipush 10, 2) := by decide +kernel
theorem dX10_knows_51 : decode cX10_knows 51 = .ok (.iload_n 1, 1) := by decide +kernel
theorem dX10_knows_52 : decode cX10_knows 52 = .ok (.imul, 1) := by decide +kernel
theorem dX10_knows_53 : decode cX10_knows 53 = .ok (.iload_n 2, 1) := by decide +kernel
theorem dX10_knows_54 : decode cX10_knows 54 = .ok (.iadd, 1) := by decide +kernel
theorem dX10_knows_55 : decode cX10_knows 55 = .ok (.iload_n 3, 1) := by decide +kernel
theorem dX10_knows_56 : decode cX10_knows 56 = .ok (.iastore, 1) := by decide +kernel
theorem dX10_knows_57 : decode cX10_knows 57 = .ok (.iload 4, 2) := by decide +kernel
theorem dX10_knows_59 : decode cX10_knows 59 = .ok (.ireturn, 1) := by decide +kernel
def BX10_knows_32 (I32 : Int32 → Int32 → Int32 → XT → YT → Prop) (Q : Int32 → XT → YT → Prop) (a1 : Int32) (a2 : Int32) (a3 : Int32) (X : XT) (Y : YT) : Prop :=
  vp_in ((10 * a1) + a2) 40 ∧ ∀ w1 : Int32, w1 = (X 79 ((10 * a1) + a2).toNatClampNeg) → vp_in ((10 * a1) + a2) 40 ∧ ∀ X3 : XT, X3 = sX X 79 ((10 * a1) + a2).toNatClampNeg a3 → Q w1 X3 Y
def BX10_knows_s (I32 : Int32 → Int32 → Int32 → XT → YT → Prop) (Q : Int32 → XT → YT → Prop) (p0 : Int32) (p1 : Int32) (p2 : Int32) (X : XT) (Y : YT) : Prop :=
  PX10_isReader p0 X Y (fun r1 X2 Y3 => ((r1 = 0 → Q (-1001) X2 Y3) ∧ (¬ r1 = 0 → PX10_noBar p1 X2 Y3 (fun r6 X7 Y8 => ((¬ r6 = 0 → Q (-1001) X7 Y8) ∧ (r6 = 0 → ((p2 = (-1) → I32 p0 p1 p2 X7 Y8) ∧ (¬ p2 = (-1) → PX10_noName p2 X7 Y8 (fun r12 X13 Y14 => ((r12 = 0 → I32 p0 p1 p2 X13 Y14) ∧ (¬ r12 = 0 → Q (-1001) X13 Y14)))))))))))
def PX10_knows (p0 : Int32) (p1 : Int32) (p2 : Int32) (X : XT) (Y : YT) (Q : Int32 → XT → YT → Prop) : Prop := ∀ (I32 : Int32 → Int32 → Int32 → XT → YT → Prop), (∀ (a1 : Int32) (a2 : Int32) (a3 : Int32) (X : XT) (Y : YT), BX10_knows_32 I32 Q a1 a2 a3 X Y → I32 a1 a2 a3 X Y) → BX10_knows_s I32 Q p0 p1 p2 X Y
set_option maxHeartbeats 4000000 in
set_option maxRecDepth 100000 in
theorem kX10_knows_32 {Γ : Cxt} {Q : Int32 → XT → YT → Prop} (O : Ok Γ RX10 cX10_knows 5 { frames := 2, cells := 0, slots := 0, locals := 46 }) (r : Ret Γ (some .int) (qI Q)) {I32 : Int32 → Int32 → Int32 → XT → YT → Prop} (e32 : ∀ (a1 : Int32) (a2 : Int32) (a3 : Int32) (X : XT) (Y : YT), I32 a1 a2 a3 X Y → V Γ 32 [(0, .ref 48), (1, .int a1), (2, .int a2), (3, .int a3)] [] X Y) {a1 : Int32} {a2 : Int32} {a3 : Int32} {X : XT} {Y : YT} (h : BX10_knows_32 I32 Q a1 a2 a3 X Y) : V Γ 32 [(0, .ref 48), (1, .int a1), (2, .int a2), (3, .int a3)] [] X Y := by
  refine v_aload_n O dX10_knows_32 rfl 0 rfl ?_
  refine v_get O dX10_knows_33 fo_X10_105 sh_48 rfl rfl ?_
  refine v_bipush O dX10_knows_36 kb_10 ?_
  refine v_iload_n O dX10_knows_38 rfl 1 rfl ?_
  refine v_imul O dX10_knows_39 ?_
  refine v_iload_n O dX10_knows_40 rfl 2 rfl ?_
  refine v_iadd O dX10_knows_41 ?_
  refine v_iald O dX10_knows_42 sh_79 h.1 ?_
  refine v_topi (fun w1 hw2 => ?_)
  refine v_istore (lv' := [(4, .int w1), (0, .ref 48), (1, .int a1), (2, .int a2), (3, .int a3)]) O dX10_knows_43 (by decide) rfl ?_
  refine v_aload_n O dX10_knows_45 rfl 1 rfl ?_
  refine v_get O dX10_knows_46 fo_X10_105 sh_48 rfl rfl ?_
  refine v_bipush O dX10_knows_49 kb_10 ?_
  refine v_iload_n O dX10_knows_51 rfl 2 rfl ?_
  refine v_imul O dX10_knows_52 ?_
  refine v_iload_n O dX10_knows_53 rfl 3 rfl ?_
  refine v_iadd O dX10_knows_54 ?_
  refine v_iload_n O dX10_knows_55 rfl 4 rfl ?_
  refine v_iast O dX10_knows_56 sh_79 (h.2 w1 hw2).1 ?_
  refine v_nmX (fun X3 hX4 => ?_)
  refine v_iload O dX10_knows_57 0 rfl ?_
  exact v_iret O r dX10_knows_59 ⟨_, rfl, ((h.2 w1 hw2).2 X3 hX4)⟩
set_option maxHeartbeats 4000000 in
set_option maxRecDepth 100000 in
theorem kX10_knows_s {Γ : Cxt} {Q : Int32 → XT → YT → Prop} (O : Ok Γ RX10 cX10_knows 5 { frames := 2, cells := 0, slots := 0, locals := 46 }) (r : Ret Γ (some .int) (qI Q)) {I32 : Int32 → Int32 → Int32 → XT → YT → Prop} (e32 : ∀ (a1 : Int32) (a2 : Int32) (a3 : Int32) (X : XT) (Y : YT), I32 a1 a2 a3 X Y → V Γ 32 [(0, .ref 48), (1, .int a1), (2, .int a2), (3, .int a3)] [] X Y) {p0 : Int32} {p1 : Int32} {p2 : Int32} {X : XT} {Y : YT} (h : BX10_knows_s I32 Q p0 p1 p2 X Y) : V Γ 0 [(0, .ref 48), (1, .int p0), (2, .int p1), (3, .int p2)] [] X Y := by
  refine v_iload_n O dX10_knows_0 rfl 1 rfl ?_
  refine v_callS (rm' := { frames := 1, cells := 0, slots := 0, locals := 25 }) (As := [.int p0]) (st := []) O dX10_knows_1 ci_X10_isReader ml_X10_323 ms_X10_isReader ⟨rfl, rfl, (by decide), (by decide)⟩ rfl (Nat.le_of_ble_eq_true rfl) rfl (mX10_isReader h) (k_I (fun r1 X2 Y3 h4 => ?_))
  refine v_if_eq (tgt := 28) O dX10_knows_4 (by decide) (fun g5 => ?_) (fun g5 => ?_)
  · refine v_sipush O dX10_knows_28 ks_m1001 ?_
    exact v_iret O r dX10_knows_31 ⟨_, rfl, (h4.1 g5)⟩
  · refine v_aload_n O dX10_knows_7 rfl 0 rfl ?_
    refine v_iload_n O dX10_knows_8 rfl 2 rfl ?_
    refine v_callV (rm' := { frames := 1, cells := 0, slots := 0, locals := 25 }) (As := [.int p1]) (st := []) O dX10_knows_9 ci_X10_noBar ml_X10_231 mi_X10_noBar sh_48 rfl ⟨rfl, rfl, (by decide), (by decide)⟩ rfl (Nat.le_of_ble_eq_true rfl) rfl (mX10_noBar (h4.2 g5)) (k_I (fun r6 X7 Y8 h9 => ?_))
    refine v_if_ne (tgt := 28) O dX10_knows_12 (by decide) (fun g10 => ?_) (fun g10 => ?_)
    · refine v_sipush O dX10_knows_28 ks_m1001 ?_
      exact v_iret O r dX10_knows_31 ⟨_, rfl, (h9.1 g10)⟩
    · refine v_iload_n O dX10_knows_15 rfl 3 rfl ?_
      refine v_iconst O dX10_knows_16 kc_m1 ?_
      refine v_icmp_eq (tgt := 32) O dX10_knows_17 (by decide) (fun g11 => ?_) (fun g11 => ?_)
      · exact v_loc [0, 1, 2, 3] rfl (e32 p0 p1 p2 X7 Y8 ((h9.2 g10).1 g11))
      · refine v_aload_n O dX10_knows_20 rfl 0 rfl ?_
        refine v_iload_n O dX10_knows_21 rfl 3 rfl ?_
        refine v_callV (rm' := { frames := 1, cells := 0, slots := 0, locals := 25 }) (As := [.int p2]) (st := []) O dX10_knows_22 ci_X10_noName ml_X10_136 mi_X10_noName sh_48 rfl ⟨rfl, rfl, (by decide), (by decide)⟩ rfl (Nat.le_of_ble_eq_true rfl) rfl (mX10_noName ((h9.2 g10).2 g11)) (k_I (fun r12 X13 Y14 h15 => ?_))
        refine v_if_eq (tgt := 32) O dX10_knows_25 (by decide) (fun g16 => ?_) (fun g16 => ?_)
        · exact v_loc [0, 1, 2, 3] rfl (e32 p0 p1 p2 X13 Y14 (h15.1 g16))
        · refine v_sipush O dX10_knows_28 ks_m1001 ?_
          exact v_iret O r dX10_knows_31 ⟨_, rfl, (h15.2 g16)⟩
set_option maxRecDepth 100000 in
theorem mX10_knows {Γ : Cxt} {p0 : Int32} {p1 : Int32} {p2 : Int32} {X : XT} {Y : YT} {Q : Int32 → XT → YT → Prop} (h : PX10_knows p0 p1 p2 X Y Q) : MT Γ yX10_knows (.code yX10_knows cX10_knows 5 (some .int) :: wl) { frames := 2, cells := 0, slots := 0, locals := 46 } [.ref 48, .int p0, .int p1, .int p2] X Y (qI Q) :=
  mt_of (by decide) (Nat.le_of_ble_eq_true rfl) (fun Γ _ O r => kX10_knows_s O r (fun _ _ _ _ _ g => g) (h (fun a1 a2 a3 X Y => V Γ 32 [(0, .ref 48), (1, .int a1), (2, .int a2), (3, .int a3)] [] X Y) (fun _ _ _ _ _ g => kX10_knows_32 O r (fun _ _ _ _ _ g => g) g)))
theorem dX10_join_0 : decode cX10_join 0 = .ok (.iconst 0, 1) := by decide +kernel
theorem dX10_join_1 : decode cX10_join 1 = .ok (.istore_n 2, 1) := by decide +kernel
theorem dX10_join_2 : decode cX10_join 2 = .ok (.iload_n 2, 1) := by decide +kernel
theorem dX10_join_3 : decode cX10_join 3 = .ok (.iconst 4, 1) := by decide +kernel
theorem dX10_join_4 : decode cX10_join 4 = .ok (.if_icmp .ge 110, 3) := by decide +kernel
theorem dX10_join_7 : decode cX10_join 7 = .ok (.iload_n 1, 1) := by decide +kernel
theorem dX10_join_8 : decode cX10_join 8 = .ok (.iload_n 2, 1) := by decide +kernel
theorem dX10_join_9 : decode cX10_join 9 = .ok (.ishr, 1) := by decide +kernel
theorem dX10_join_10 : decode cX10_join 10 = .ok (.iconst 1, 1) := by decide +kernel
theorem dX10_join_11 : decode cX10_join 11 = .ok (.iand, 1) := by decide +kernel
theorem dX10_join_12 : decode cX10_join 12 = .ok (.iconst 1, 1) := by decide +kernel
theorem dX10_join_13 : decode cX10_join 13 = .ok (.if_icmp .ne 95, 3) := by decide +kernel
theorem dX10_join_16 : decode cX10_join 16 = .ok (.aload_n 0, 1) := by decide +kernel
theorem dX10_join_17 : decode cX10_join 17 = .ok (.dup, 1) := by decide +kernel
theorem dX10_join_18 : decode cX10_join 18 = .ok (.getfield 243, 3) := by decide +kernel
theorem dX10_join_21 : decode cX10_join 21 = .ok (.aload_n 0, 1) := by decide +kernel
theorem dX10_join_22 : decode cX10_join 22 = .ok (.getfield 102, 3) := by decide +kernel
theorem dX10_join_25 : decode cX10_join 25 = .ok (.iload_n 2, 1) := by decide +kernel
theorem dX10_join_26 : decode cX10_join 26 = .ok (.iaload, 1) := by decide +kernel
theorem dX10_join_27 : decode cX10_join 27 = .ok (.ior, 1) := by decide +kernel
theorem dX10_join_28 : decode cX10_join 28 = .ok (.putfield 243, 3) := by decide +kernel
theorem dX10_join_31 : decode cX10_join 31 = .ok (.iconst 0, 1) := by decide +kernel
theorem dX10_join_32 : decode cX10_join 32 = .ok (.istore_n 3, 1) := by decide +kernel
theorem dX10_join_33 : decode cX10_join 33 = .ok (.iload_n 3, 1) := by decide +kernel
theorem dX10_join_34 : decode cX10_join 34 = .ok (.aload_n 0, 1) := by decide +kernel
theorem dX10_join_35 : decode cX10_join 35 = .ok (.getfield 162, 3) := by decide +kernel
theorem dX10_join_38 : decode cX10_join 38 = .ok (.if_icmp .ge 70, 3) := by decide +kernel
theorem dX10_join_41 : decode cX10_join 41 = .ok (.aload_n 0, 1) := by decide +kernel
theorem dX10_join_42 : decode cX10_join 42 = .ok (.getfield 105, 3) := by decide +kernel
theorem dX10_join_45 : decode cX10_join 45 = .ok (.bipush 10, 2) := by decide +kernel
theorem dX10_join_47 : decode cX10_join 47 = .ok (.iload_n 2, 1) := by decide +kernel
theorem dX10_join_48 : decode cX10_join 48 = .ok (.imul, 1) := by decide +kernel
theorem dX10_join_49 : decode cX10_join 49 = .ok (.iload_n 3, 1) := by decide +kernel
theorem dX10_join_50 : decode cX10_join 50 = .ok (.iadd, 1) := by decide +kernel
theorem dX10_join_51 : decode cX10_join 51 = .ok (.iaload, 1) := by decide +kernel
theorem dX10_join_52 : decode cX10_join 52 = .ok (.istore 4, 2) := by decide +kernel
theorem dX10_join_54 : decode cX10_join 54 = .ok (.aload_n 0, 1) := by decide +kernel
theorem dX10_join_55 : decode cX10_join 55 = .ok (.getfield 80, 3) := by decide +kernel
theorem dX10_join_58 : decode cX10_join 58 = .ok (.iload_n 3, 1) := by decide +kernel
theorem dX10_join_59 : decode cX10_join 59 = .ok (.iload 4, 2) := by decide +kernel
theorem dX10_join_61 : decode cX10_join 61 = .ok (.ifCond .ge 12, 3) := by decide +kernel
theorem dX10_join_64 : decode cX10_join 64 = .ok (.aload_n 0, 1) := by decide +kernel
theorem dX10_join_65 : decode cX10_join 65 = .ok (.getfield 80, 3) := by decide +kernel
theorem dX10_join_68 : decode cX10_join 68 = .ok (.iload_n 3, 1) := by decide +kernel
theorem dX10_join_69 : decode cX10_join 69 = .ok (.iaload, 1) := by decide +kernel
theorem dX10_join_70 : decode cX10_join 70 = .ok (.goto 31, 3) := by decide +kernel
theorem dX10_join_73 : decode cX10_join 73 = .ok (.aload_n 0, 1) := by decide +kernel
theorem dX10_join_74 : decode cX10_join 74 = .ok (.getfield 80, 3) := by decide +kernel
theorem dX10_join_77 : decode cX10_join 77 = .ok (.iload_n 3, 1) := by decide +kernel
theorem dX10_join_78 : decode cX10_join 78 = .ok (.iaload, 1) := by decide +kernel
theorem dX10_join_79 : decode cX10_join 79 = .ok (.iconst (-1), 1) := by decide +kernel
theorem dX10_join_80 : decode cX10_join 80 = .ok (.if_icmp .eq 14, 3) := by decide +kernel
theorem dX10_join_83 : decode cX10_join 83 = .ok (.aload_n 0, 1) := by decide +kernel
theorem dX10_join_84 : decode cX10_join 84 = .ok (.getfield 80, 3) := by decide +kernel
theorem dX10_join_87 : decode cX10_join 87 = .ok (.iload_n 3, 1) := by decide +kernel
theorem dX10_join_88 : decode cX10_join 88 = .ok (.iaload, 1) := by decide +kernel
theorem dX10_join_89 : decode cX10_join 89 = .ok (.iload 4, 2) := by decide +kernel
theorem dX10_join_91 : decode cX10_join 91 = .ok (.if_icmp .ne 8, 3) := by decide +kernel
theorem dX10_join_94 : decode cX10_join 94 = .ok (.iload 4, 2) := by decide +kernel
theorem dX10_join_96 : decode cX10_join 96 = .ok (.goto 5, 3) := by decide +kernel
theorem dX10_join_99 : decode cX10_join 99 = .ok (.bipush (-2), 2) := by decide +kernel
theorem dX10_join_101 : decode cX10_join 101 = .ok (.iastore, 1) := by decide +kernel
theorem dX10_join_102 : decode cX10_join 102 = .ok (.iinc 3 1, 3) := by decide +kernel
theorem dX10_join_105 : decode cX10_join 105 = .ok (.goto (-72), 3) := by decide +kernel
theorem dX10_join_108 : decode cX10_join 108 = .ok (.iinc 2 1, 3) := by decide +kernel
theorem dX10_join_111 : decode cX10_join 111 = .ok (.goto (-109), 3) := by decide +kernel
theorem dX10_join_114 : decode cX10_join 114 = .ok (.return_, 1) := by decide +kernel
def BX10_join_2 (I2 : Int32 → Int32 → XT → YT → Prop) (I33 : Int32 → Int32 → Int32 → XT → YT → Prop) (Q : XT → YT → Prop) (a1 : Int32) (a2 : Int32) (X : XT) (Y : YT) : Prop :=
  ((4 ≤ a2 → Q X Y) ∧ (¬ 4 ≤ a2 → ((¬ ((a1 >>> (a2 &&& 31)) &&& 1) = 1 → ∀ w3 : Int32, w3 = a2 + 1 → I2 a1 w3 X Y) ∧ (((a1 >>> (a2 &&& 31)) &&& 1) = 1 → vp_in a2 4 ∧ ∀ X5 : XT, X5 = sX X 48 39 ((X 48 39) ||| (X 78 a2.toNatClampNeg)) → I33 a1 a2 0 X5 Y))))
def BX10_join_33 (I2 : Int32 → Int32 → XT → YT → Prop) (I33 : Int32 → Int32 → Int32 → XT → YT → Prop) (Q : XT → YT → Prop) (a1 : Int32) (a2 : Int32) (a3 : Int32) (X : XT) (Y : YT) : Prop :=
  (((X 48 22) ≤ a3 → ∀ w2 : Int32, w2 = a2 + 1 → I2 a1 w2 X Y) ∧ (¬ (X 48 22) ≤ a3 → vp_in ((10 * a2) + a3) 40 ∧ ∀ w4 : Int32, w4 = (X 79 ((10 * a2) + a3).toNatClampNeg) → ((0 ≤ w4 → vp_in a3 10 ∧ (((X 71 a3.toNatClampNeg) = (-1) → vp_in a3 10 ∧ ∀ w8 : Int32, w8 = a3 + 1 → I33 a1 a2 w8 (sX X 71 a3.toNatClampNeg w4) Y) ∧ (¬ (X 71 a3.toNatClampNeg) = (-1) → vp_in a3 10 ∧ ((¬ (X 71 a3.toNatClampNeg) = w4 → vp_in a3 10 ∧ ∀ w11 : Int32, w11 = a3 + 1 → I33 a1 a2 w11 (sX X 71 a3.toNatClampNeg (-2)) Y) ∧ ((X 71 a3.toNatClampNeg) = w4 → vp_in a3 10 ∧ ∀ w13 : Int32, w13 = a3 + 1 → I33 a1 a2 w13 (sX X 71 a3.toNatClampNeg w4) Y))))) ∧ (¬ 0 ≤ w4 → vp_in a3 10 ∧ vp_in a3 10 ∧ ∀ X15 : XT, X15 = sX X 71 a3.toNatClampNeg (X 71 a3.toNatClampNeg) → ∀ w17 : Int32, w17 = a3 + 1 → I33 a1 a2 w17 X15 Y))))
def BX10_join_s (I2 : Int32 → Int32 → XT → YT → Prop) (I33 : Int32 → Int32 → Int32 → XT → YT → Prop) (Q : XT → YT → Prop) (p0 : Int32) (X : XT) (Y : YT) : Prop :=
  I2 p0 0 X Y
def PX10_join (p0 : Int32) (X : XT) (Y : YT) (Q : XT → YT → Prop) : Prop := ∀ (I2 : Int32 → Int32 → XT → YT → Prop) (I33 : Int32 → Int32 → Int32 → XT → YT → Prop), (∀ (a1 : Int32) (a2 : Int32) (X : XT) (Y : YT), BX10_join_2 I2 I33 Q a1 a2 X Y → I2 a1 a2 X Y) → (∀ (a1 : Int32) (a2 : Int32) (a3 : Int32) (X : XT) (Y : YT), BX10_join_33 I2 I33 Q a1 a2 a3 X Y → I33 a1 a2 a3 X Y) → BX10_join_s I2 I33 Q p0 X Y
set_option maxHeartbeats 4000000 in
set_option maxRecDepth 100000 in
theorem kX10_join_2 {Γ : Cxt} {Q : XT → YT → Prop} (O : Ok Γ RX10 cX10_join 5 { frames := 0, cells := 0, slots := 0, locals := 0 }) (r : Ret Γ none (qV Q)) {I2 : Int32 → Int32 → XT → YT → Prop} {I33 : Int32 → Int32 → Int32 → XT → YT → Prop} (e2 : ∀ (a1 : Int32) (a2 : Int32) (X : XT) (Y : YT), I2 a1 a2 X Y → V Γ 2 [(0, .ref 48), (1, .int a1), (2, .int a2)] [] X Y) (e33 : ∀ (a1 : Int32) (a2 : Int32) (a3 : Int32) (X : XT) (Y : YT), I33 a1 a2 a3 X Y → V Γ 33 [(0, .ref 48), (1, .int a1), (2, .int a2), (3, .int a3)] [] X Y) {a1 : Int32} {a2 : Int32} {X : XT} {Y : YT} (h : BX10_join_2 I2 I33 Q a1 a2 X Y) : V Γ 2 [(0, .ref 48), (1, .int a1), (2, .int a2)] [] X Y := by
  refine v_iload_n O dX10_join_2 rfl 2 rfl ?_
  refine v_iconst O dX10_join_3 kc_4 ?_
  refine v_icmp_ge (tgt := 114) O dX10_join_4 (by decide) (fun g1 => ?_) (fun g1 => ?_)
  · exact v_vret O r dX10_join_114 ⟨rfl, (h.1 g1)⟩
  · refine v_iload_n O dX10_join_7 rfl 1 rfl ?_
    refine v_iload_n O dX10_join_8 rfl 2 rfl ?_
    refine v_ishr O dX10_join_9 ?_
    refine v_iconst O dX10_join_10 kc_1 ?_
    refine v_iand O dX10_join_11 ?_
    refine v_iconst O dX10_join_12 kc_1 ?_
    refine v_icmp_ne (tgt := 108) O dX10_join_13 (by decide) (fun g2 => ?_) (fun g2 => ?_)
    · obtain ⟨w3, hw4⟩ : ∃ y : Int32, y = a2 + 1 := ⟨_, rfl⟩
      refine v_iinc (v := w3) (j := 2) O dX10_join_108 rfl (by rw [hw4]; exact congrArg _ kc_1) (by decide) (lv' := [(2, .int w3), (0, .ref 48), (1, .int a1)]) rfl ?_
      refine v_goto O dX10_join_111 (tgt := 2) (by decide) ?_
      exact v_loc [1, 2, 0] rfl (e2 a1 w3 X Y (((h.2 g1).1 g2) w3 hw4))
    · refine v_aload_n O dX10_join_16 rfl 0 rfl ?_
      refine v_dup O dX10_join_17 rfl ?_
      refine v_get O dX10_join_18 fo_X10_243 sh_48 rfl rfl ?_
      refine v_aload_n O dX10_join_21 rfl 0 rfl ?_
      refine v_get O dX10_join_22 fo_X10_102 sh_48 rfl rfl ?_
      refine v_iload_n O dX10_join_25 rfl 2 rfl ?_
      refine v_iald O dX10_join_26 sh_78 ((h.2 g1).2 g2).1 ?_
      refine v_ior O dX10_join_27 ?_
      refine v_putI O dX10_join_28 fo_X10_243 fp_10_39 sh_48 rfl rfl rfl ?_
      refine v_nmX (fun X5 hX6 => ?_)
      refine v_iconst O dX10_join_31 kc_0 ?_
      refine v_istore_n (lv' := [(3, .int 0), (0, .ref 48), (1, .int a1), (2, .int a2)]) O dX10_join_32 rfl (by decide) rfl ?_
      exact v_loc [1, 2, 3, 0] rfl (e33 a1 a2 0 X5 Y (((h.2 g1).2 g2).2 X5 hX6))
set_option maxHeartbeats 4000000 in
set_option maxRecDepth 100000 in
theorem kX10_join_33 {Γ : Cxt} {Q : XT → YT → Prop} (O : Ok Γ RX10 cX10_join 5 { frames := 0, cells := 0, slots := 0, locals := 0 }) (r : Ret Γ none (qV Q)) {I2 : Int32 → Int32 → XT → YT → Prop} {I33 : Int32 → Int32 → Int32 → XT → YT → Prop} (e2 : ∀ (a1 : Int32) (a2 : Int32) (X : XT) (Y : YT), I2 a1 a2 X Y → V Γ 2 [(0, .ref 48), (1, .int a1), (2, .int a2)] [] X Y) (e33 : ∀ (a1 : Int32) (a2 : Int32) (a3 : Int32) (X : XT) (Y : YT), I33 a1 a2 a3 X Y → V Γ 33 [(0, .ref 48), (1, .int a1), (2, .int a2), (3, .int a3)] [] X Y) {a1 : Int32} {a2 : Int32} {a3 : Int32} {X : XT} {Y : YT} (h : BX10_join_33 I2 I33 Q a1 a2 a3 X Y) : V Γ 33 [(0, .ref 48), (1, .int a1), (2, .int a2), (3, .int a3)] [] X Y := by
  refine v_iload_n O dX10_join_33 rfl 3 rfl ?_
  refine v_aload_n O dX10_join_34 rfl 0 rfl ?_
  refine v_get O dX10_join_35 fo_X10_162 sh_48 rfl rfl ?_
  refine v_icmp_ge (tgt := 108) O dX10_join_38 (by decide) (fun g1 => ?_) (fun g1 => ?_)
  · obtain ⟨w2, hw3⟩ : ∃ y : Int32, y = a2 + 1 := ⟨_, rfl⟩
    refine v_iinc (v := w2) (j := 2) O dX10_join_108 rfl (by rw [hw3]; exact congrArg _ kc_1) (by decide) (lv' := [(2, .int w2), (0, .ref 48), (1, .int a1), (3, .int a3)]) rfl ?_
    refine v_goto O dX10_join_111 (tgt := 2) (by decide) ?_
    exact v_loc [1, 2, 0] rfl (e2 a1 w2 X Y ((h.1 g1) w2 hw3))
  · refine v_aload_n O dX10_join_41 rfl 0 rfl ?_
    refine v_get O dX10_join_42 fo_X10_105 sh_48 rfl rfl ?_
    refine v_bipush O dX10_join_45 kb_10 ?_
    refine v_iload_n O dX10_join_47 rfl 2 rfl ?_
    refine v_imul O dX10_join_48 ?_
    refine v_iload_n O dX10_join_49 rfl 3 rfl ?_
    refine v_iadd O dX10_join_50 ?_
    refine v_iald O dX10_join_51 sh_79 (h.2 g1).1 ?_
    refine v_topi (fun w4 hw5 => ?_)
    refine v_istore (lv' := [(4, .int w4), (0, .ref 48), (1, .int a1), (2, .int a2), (3, .int a3)]) O dX10_join_52 (by decide) rfl ?_
    refine v_aload_n O dX10_join_54 rfl 1 rfl ?_
    refine v_get O dX10_join_55 fo_X10_80 sh_48 rfl rfl ?_
    refine v_iload_n O dX10_join_58 rfl 4 rfl ?_
    refine v_iload O dX10_join_59 0 rfl ?_
    refine v_if_ge (tgt := 73) O dX10_join_61 (by decide) (fun g6 => ?_) (fun g6 => ?_)
    · refine v_aload_n O dX10_join_73 rfl 1 rfl ?_
      refine v_get O dX10_join_74 fo_X10_80 sh_48 rfl rfl ?_
      refine v_iload_n O dX10_join_77 rfl 4 rfl ?_
      refine v_iald O dX10_join_78 sh_71 (((h.2 g1).2 w4 hw5).1 g6).1 ?_
      refine v_iconst O dX10_join_79 kc_m1 ?_
      refine v_icmp_eq (tgt := 94) O dX10_join_80 (by decide) (fun g7 => ?_) (fun g7 => ?_)
      · refine v_iload O dX10_join_94 0 rfl ?_
        refine v_goto O dX10_join_96 (tgt := 101) (by decide) ?_
        refine v_iast O dX10_join_101 sh_71 ((((h.2 g1).2 w4 hw5).1 g6).2.1 g7).1 ?_
        obtain ⟨w8, hw9⟩ : ∃ y : Int32, y = a3 + 1 := ⟨_, rfl⟩
        refine v_iinc (v := w8) (j := 4) O dX10_join_102 rfl (by rw [hw9]; exact congrArg _ kc_1) (by decide) (lv' := [(3, .int w8), (4, .int w4), (0, .ref 48), (1, .int a1), (2, .int a2)]) rfl ?_
        refine v_goto O dX10_join_105 (tgt := 33) (by decide) ?_
        exact v_loc [2, 3, 4, 0] rfl (e33 a1 a2 w8 (sX X 71 a3.toNatClampNeg w4) Y (((((h.2 g1).2 w4 hw5).1 g6).2.1 g7).2 w8 hw9))
      · refine v_aload_n O dX10_join_83 rfl 1 rfl ?_
        refine v_get O dX10_join_84 fo_X10_80 sh_48 rfl rfl ?_
        refine v_iload_n O dX10_join_87 rfl 4 rfl ?_
        refine v_iald O dX10_join_88 sh_71 ((((h.2 g1).2 w4 hw5).1 g6).2.2 g7).1 ?_
        refine v_iload O dX10_join_89 0 rfl ?_
        refine v_icmp_ne (tgt := 99) O dX10_join_91 (by decide) (fun g10 => ?_) (fun g10 => ?_)
        · refine v_bipush O dX10_join_99 kb_m2 ?_
          refine v_iast O dX10_join_101 sh_71 (((((h.2 g1).2 w4 hw5).1 g6).2.2 g7).2.1 g10).1 ?_
          obtain ⟨w11, hw12⟩ : ∃ y : Int32, y = a3 + 1 := ⟨_, rfl⟩
          refine v_iinc (v := w11) (j := 4) O dX10_join_102 rfl (by rw [hw12]; exact congrArg _ kc_1) (by decide) (lv' := [(3, .int w11), (4, .int w4), (0, .ref 48), (1, .int a1), (2, .int a2)]) rfl ?_
          refine v_goto O dX10_join_105 (tgt := 33) (by decide) ?_
          exact v_loc [2, 3, 4, 0] rfl (e33 a1 a2 w11 (sX X 71 a3.toNatClampNeg (-2)) Y ((((((h.2 g1).2 w4 hw5).1 g6).2.2 g7).2.1 g10).2 w11 hw12))
        · refine v_iload O dX10_join_94 0 rfl ?_
          refine v_goto O dX10_join_96 (tgt := 101) (by decide) ?_
          refine v_iast O dX10_join_101 sh_71 (((((h.2 g1).2 w4 hw5).1 g6).2.2 g7).2.2 g10).1 ?_
          obtain ⟨w13, hw14⟩ : ∃ y : Int32, y = a3 + 1 := ⟨_, rfl⟩
          refine v_iinc (v := w13) (j := 4) O dX10_join_102 rfl (by rw [hw14]; exact congrArg _ kc_1) (by decide) (lv' := [(3, .int w13), (4, .int w4), (0, .ref 48), (1, .int a1), (2, .int a2)]) rfl ?_
          refine v_goto O dX10_join_105 (tgt := 33) (by decide) ?_
          exact v_loc [2, 3, 4, 0] rfl (e33 a1 a2 w13 (sX X 71 a3.toNatClampNeg w4) Y ((((((h.2 g1).2 w4 hw5).1 g6).2.2 g7).2.2 g10).2 w13 hw14))
    · refine v_aload_n O dX10_join_64 rfl 1 rfl ?_
      refine v_get O dX10_join_65 fo_X10_80 sh_48 rfl rfl ?_
      refine v_iload_n O dX10_join_68 rfl 4 rfl ?_
      refine v_iald O dX10_join_69 sh_71 (((h.2 g1).2 w4 hw5).2 g6).1 ?_
      refine v_goto O dX10_join_70 (tgt := 101) (by decide) ?_
      refine v_iast O dX10_join_101 sh_71 (((h.2 g1).2 w4 hw5).2 g6).2.1 ?_
      refine v_nmX (fun X15 hX16 => ?_)
      obtain ⟨w17, hw18⟩ : ∃ y : Int32, y = a3 + 1 := ⟨_, rfl⟩
      refine v_iinc (v := w17) (j := 4) O dX10_join_102 rfl (by rw [hw18]; exact congrArg _ kc_1) (by decide) (lv' := [(3, .int w17), (4, .int w4), (0, .ref 48), (1, .int a1), (2, .int a2)]) rfl ?_
      refine v_goto O dX10_join_105 (tgt := 33) (by decide) ?_
      exact v_loc [2, 3, 4, 0] rfl (e33 a1 a2 w17 X15 Y (((((h.2 g1).2 w4 hw5).2 g6).2.2 X15 hX16) w17 hw18))
set_option maxHeartbeats 4000000 in
set_option maxRecDepth 100000 in
theorem kX10_join_s {Γ : Cxt} {Q : XT → YT → Prop} (O : Ok Γ RX10 cX10_join 5 { frames := 0, cells := 0, slots := 0, locals := 0 }) (r : Ret Γ none (qV Q)) {I2 : Int32 → Int32 → XT → YT → Prop} {I33 : Int32 → Int32 → Int32 → XT → YT → Prop} (e2 : ∀ (a1 : Int32) (a2 : Int32) (X : XT) (Y : YT), I2 a1 a2 X Y → V Γ 2 [(0, .ref 48), (1, .int a1), (2, .int a2)] [] X Y) (e33 : ∀ (a1 : Int32) (a2 : Int32) (a3 : Int32) (X : XT) (Y : YT), I33 a1 a2 a3 X Y → V Γ 33 [(0, .ref 48), (1, .int a1), (2, .int a2), (3, .int a3)] [] X Y) {p0 : Int32} {X : XT} {Y : YT} (h : BX10_join_s I2 I33 Q p0 X Y) : V Γ 0 [(0, .ref 48), (1, .int p0)] [] X Y := by
  refine v_iconst O dX10_join_0 kc_0 ?_
  refine v_istore_n (lv' := [(2, .int 0), (0, .ref 48), (1, .int p0)]) O dX10_join_1 rfl (by decide) rfl ?_
  exact v_loc [1, 2, 0] rfl (e2 p0 0 X Y h)
set_option maxRecDepth 100000 in
theorem mX10_join {Γ : Cxt} {p0 : Int32} {X : XT} {Y : YT} {Q : XT → YT → Prop} (h : PX10_join p0 X Y Q) : MT Γ yX10_join (.code yX10_join cX10_join 5 none :: wl) { frames := 0, cells := 0, slots := 0, locals := 0 } [.ref 48, .int p0] X Y (qV Q) :=
  mt_of (by decide) (Nat.le_of_ble_eq_true rfl) (fun Γ _ O r => kX10_join_s O r (fun _ _ _ _ g => g) (fun _ _ _ _ _ g => g) (h (fun a1 a2 X Y => V Γ 2 [(0, .ref 48), (1, .int a1), (2, .int a2)] [] X Y) (fun a1 a2 a3 X Y => V Γ 33 [(0, .ref 48), (1, .int a1), (2, .int a2), (3, .int a3)] [] X Y) (fun _ _ _ _ g => kX10_join_2 O r (fun _ _ _ _ g => g) (fun _ _ _ _ _ g => g) g) (fun _ _ _ _ _ g => kX10_join_33 O r (fun _ _ _ _ g => g) (fun _ _ _ _ _ g => g) g)))
theorem dX10_together_0 : decode cX10_together 0 = .ok (.iload_n 1, 1) := by decide +kernel
theorem dX10_together_1 : decode cX10_together 1 = .ok (.i2l, 1) := by decide +kernel
theorem dX10_together_2 : decode cX10_together 2 = .ok (.lconst 0, 1) := by decide +kernel
theorem dX10_together_3 : decode cX10_together 3 = .ok (.ldc2_w 140, 3) := by decide +kernel
theorem dX10_together_6 : decode cX10_together 6 = .ok (.invokestatic 108, 3) := by decide +kernel
theorem dX10_together_9 : decode cX10_together 9 = .ok (.ifCond .ne 7, 3) := by decide +kernel
theorem dX10_together_12 : decode cX10_together 12 = .ok (.sipush (-1001), 3) := by decide +kernel
theorem dX10_together_15 : decode cX10_together 15 = .ok (.ireturn, 1) := by decide +kernel
theorem dX10_together_16 : decode cX10_together 16 = .ok (.aload_n 0, 1) := by decide +kernel
theorem dX10_together_17 : decode cX10_together 17 = .ok (.invokevirtual 296, 3) := by decide +kernel
theorem dX10_together_20 : decode cX10_together 20 = .ok (.aload_n 0, 1) := by decide +kernel
theorem dX10_together_21 : decode cX10_together 21 = .ok (.iload_n 1, 1) := by decide +kernel
theorem dX10_together_22 : decode cX10_together 22 = .ok (.invokevirtual 329, 3) := by decide +kernel
theorem dX10_together_25 : decode cX10_together 25 = .ok (.aload_n 0, 1) := by decide +kernel
theorem dX10_together_26 : decode cX10_together 26 = .ok (.invokevirtual 299, 3) := by decide +kernel
theorem dX10_together_29 : decode cX10_together 29 = .ok (.ifCond .eq 10, 3) := by decide +kernel
theorem dX10_together_32 : decode cX10_together 32 = .ok (.aload_n 0, 1) := by decide +kernel
theorem dX10_together_33 : decode cX10_together 33 = .ok (.getfield 278, 3) := by decide +kernel
theorem dX10_together_36 : decode cX10_together 36 = .ok (.goto 6, 3) := by decide +kernel
theorem dX10_together_39 : decode cX10_together 39 = .ok (.sipush (-1005), 3) := by decide +kernel
theorem dX10_together_42 : decode cX10_together 42 = .ok (.ireturn, 1) := by decide +kernel
def BX10_together_s (Q : Int32 → XT → YT → Prop) (p0 : Int32) (X : XT) (Y : YT) : Prop :=
  PX10_in (p0.toInt64) (0 : Int64) (15 : Int64) X Y (fun r1 X2 Y3 => ((¬ r1 = 0 → PX10_begin X2 Y3 (fun X7 Y8 => PX10_join p0 X7 Y8 (fun X11 Y12 => PX10_goThrough X11 Y12 (fun r14 X15 Y16 => ((r14 = 0 → Q (-1005) X15 Y16) ∧ (¬ r14 = 0 → Q (X15 48 47) X15 Y16)))))) ∧ (r1 = 0 → Q (-1001) X2 Y3)))
def PX10_together (p0 : Int32) (X : XT) (Y : YT) (Q : Int32 → XT → YT → Prop) : Prop :=  BX10_together_s Q p0 X Y
set_option maxHeartbeats 4000000 in
set_option maxRecDepth 100000 in
theorem kX10_together_s {Γ : Cxt} {Q : Int32 → XT → YT → Prop} (O : Ok Γ RX10 cX10_together 2 { frames := 5, cells := 0, slots := 0, locals := 116 }) (r : Ret Γ (some .int) (qI Q)) {p0 : Int32} {X : XT} {Y : YT} (h : BX10_together_s Q p0 X Y) : V Γ 0 [(0, .ref 48), (1, .int p0)] [] X Y := by
  refine v_iload_n O dX10_together_0 rfl 1 rfl ?_
  refine v_i2l O dX10_together_1 ?_
  refine v_lconst O dX10_together_2 (v := 0) (by decide) ?_
  refine v_ldc2 O dX10_together_3 kl_X10_140 ?_
  refine v_callS (rm' := { frames := 0, cells := 0, slots := 0, locals := 0 }) (As := [.long (p0.toInt64), .long (0 : Int64), .long (15 : Int64)]) (st := []) O dX10_together_6 ci_X10_in ml_X10_108 ms_X10_in ⟨rfl, rfl, (by decide), (by decide)⟩ rfl (Nat.le_of_ble_eq_true rfl) rfl (mX10_in h) (k_I (fun r1 X2 Y3 h4 => ?_))
  refine v_if_ne (tgt := 16) O dX10_together_9 (by decide) (fun g5 => ?_) (fun g5 => ?_)
  · refine v_aload_n O dX10_together_16 rfl 0 rfl ?_
    refine v_callV (rm' := { frames := 0, cells := 0, slots := 0, locals := 0 }) (As := []) (st := []) O dX10_together_17 ci_X10_begin ml_X10_296 mi_X10_begin sh_48 rfl ⟨rfl, rfl, (by decide), (by decide)⟩ rfl (Nat.le_of_ble_eq_true rfl) rfl (mX10_begin (h4.1 g5)) (k_V (fun X7 Y8 h9 => ?_))
    refine v_aload_n O dX10_together_20 rfl 0 rfl ?_
    refine v_iload_n O dX10_together_21 rfl 1 rfl ?_
    refine v_callV (rm' := { frames := 0, cells := 0, slots := 0, locals := 0 }) (As := [.int p0]) (st := []) O dX10_together_22 ci_X10_join ml_X10_329 mi_X10_join sh_48 rfl ⟨rfl, rfl, (by decide), (by decide)⟩ rfl (Nat.le_of_ble_eq_true rfl) rfl (mX10_join h9) (k_V (fun X11 Y12 h13 => ?_))
    refine v_aload_n O dX10_together_25 rfl 0 rfl ?_
    refine v_callV (rm' := { frames := 4, cells := 0, slots := 0, locals := 94 }) (As := []) (st := []) O dX10_together_26 ci_X10_goThrough ml_X10_299 mi_X10_goThrough sh_48 rfl ⟨rfl, rfl, (by decide), (by decide)⟩ rfl (Nat.le_of_ble_eq_true rfl) rfl (mX10_goThrough h13) (k_I (fun r14 X15 Y16 h17 => ?_))
    refine v_if_eq (tgt := 39) O dX10_together_29 (by decide) (fun g18 => ?_) (fun g18 => ?_)
    · refine v_sipush O dX10_together_39 ks_m1005 ?_
      exact v_iret O r dX10_together_42 ⟨_, rfl, (h17.1 g18)⟩
    · refine v_aload_n O dX10_together_32 rfl 0 rfl ?_
      refine v_get O dX10_together_33 fo_X10_278 sh_48 rfl rfl ?_
      refine v_goto O dX10_together_36 (tgt := 42) (by decide) ?_
      exact v_iret O r dX10_together_42 ⟨_, rfl, (h17.2 g18)⟩
  · refine v_sipush O dX10_together_12 ks_m1001 ?_
    exact v_iret O r dX10_together_15 ⟨_, rfl, (h4.2 g5)⟩
set_option maxRecDepth 100000 in
theorem mX10_together {Γ : Cxt} {p0 : Int32} {X : XT} {Y : YT} {Q : Int32 → XT → YT → Prop} (h : PX10_together p0 X Y Q) : MT Γ yX10_together (.code yX10_together cX10_together 2 (some .int) :: wl) { frames := 5, cells := 0, slots := 0, locals := 116 } [.ref 48, .int p0] X Y (qI Q) :=
  mt_of (by decide) (Nat.le_of_ble_eq_true rfl) (fun Γ _ O r => kX10_together_s O r  (h ))
theorem dX10_sees_0 : decode cX10_sees 0 = .ok (.iload_n 1, 1) := by decide +kernel
theorem dX10_sees_1 : decode cX10_sees 1 = .ok (.i2l, 1) := by decide +kernel
theorem dX10_sees_2 : decode cX10_sees 2 = .ok (.lconst 0, 1) := by decide +kernel
theorem dX10_sees_3 : decode cX10_sees 3 = .ok (.ldc2_w 140, 3) := by decide +kernel
theorem dX10_sees_6 : decode cX10_sees 6 = .ok (.invokestatic 108, 3) := by decide +kernel
theorem dX10_sees_9 : decode cX10_sees 9 = .ok (.ifCond .eq 11, 3) := by decide +kernel
theorem dX10_sees_12 : decode cX10_sees 12 = .ok (.aload_n 0, 1) := by decide +kernel
theorem dX10_sees_13 : decode cX10_sees 13 = .ok (.iload_n 2, 1) := by decide +kernel
theorem dX10_sees_14 : decode cX10_sees 14 = .ok (.invokevirtual 231, 3) := by decide +kernel
theorem dX10_sees_17 : decode cX10_sees 17 = .ok (.ifCond .eq 7, 3) := by decide +kernel
theorem dX10_sees_20 : decode cX10_sees 20 = .ok (.sipush (-1001), 3) := by decide +kernel
theorem dX10_sees_23 : decode cX10_sees 23 = .ok (.ireturn, 1) := by decide +kernel
theorem dX10_sees_24 : decode cX10_sees 24 = .ok (.aload_n 0, 1) := by decide +kernel
theorem dX10_sees_25 : decode cX10_sees 25 = .ok (.invokevirtual 296, 3) := by decide +kernel
theorem dX10_sees_28 : decode cX10_sees 28 = .ok (.aload_n 0, 1) := by decide +kernel
theorem dX10_sees_29 : decode cX10_sees 29 = .ok (.iload_n 1, 1) := by decide +kernel
theorem dX10_sees_30 : decode cX10_sees 30 = .ok (.invokevirtual 329, 3) := by decide +kernel
theorem dX10_sees_33 : decode cX10_sees 33 = .ok (.aload_n 0, 1) := by decide +kernel
theorem dX10_sees_34 : decode cX10_sees 34 = .ok (.invokevirtual 299, 3) := by decide +kernel
theorem dX10_sees_37 : decode cX10_sees 37 = .ok (.ifCond .eq 16, 3) := by decide +kernel
theorem dX10_sees_40 : decode cX10_sees 40 = .ok (.aload_n 0, 1) := by decide +kernel
theorem dX10_sees_41 : decode cX10_sees 41 = .ok (.getfield 92, 3) := by decide +kernel
theorem dX10_sees_44 : decode cX10_sees 44 = .ok (.aload_n 0, 1) := by decide +kernel
theorem dX10_sees_45 : decode cX10_sees 45 = .ok (.iload_n 2, 1) := by decide +kernel
theorem dX10_sees_46 : decode cX10_sees 46 = .ok (.invokevirtual 303, 3) := by decide +kernel
theorem dX10_sees_49 : decode cX10_sees 49 = .ok (.iaload, 1) := by decide +kernel
theorem dX10_sees_50 : decode cX10_sees 50 = .ok (.goto 6, 3) := by decide +kernel
theorem dX10_sees_53 : decode cX10_sees 53 = .ok (.sipush (-1005), 3) := by decide +kernel
theorem dX10_sees_56 : decode cX10_sees 56 = .ok (.ireturn, 1) := by decide +kernel
def BX10_sees_s (Q : Int32 → XT → YT → Prop) (p0 : Int32) (p1 : Int32) (X : XT) (Y : YT) : Prop :=
  PX10_in (p0.toInt64) (0 : Int64) (15 : Int64) X Y (fun r1 X2 Y3 => ((r1 = 0 → Q (-1001) X2 Y3) ∧ (¬ r1 = 0 → PX10_noBar p1 X2 Y3 (fun r6 X7 Y8 => ((r6 = 0 → PX10_begin X7 Y8 (fun X12 Y13 => PX10_join p0 X12 Y13 (fun X16 Y17 => PX10_goThrough X16 Y17 (fun r19 X20 Y21 => ((r19 = 0 → Q (-1005) X20 Y21) ∧ (¬ r19 = 0 → PX10_posOf p1 X20 Y21 (fun r24 X25 Y26 => vp_in r24 20 ∧ Q (X25 75 r24.toNatClampNeg) X25 Y26))))))) ∧ (¬ r6 = 0 → Q (-1001) X7 Y8))))))
def PX10_sees (p0 : Int32) (p1 : Int32) (X : XT) (Y : YT) (Q : Int32 → XT → YT → Prop) : Prop :=  BX10_sees_s Q p0 p1 X Y
set_option maxHeartbeats 4000000 in
set_option maxRecDepth 100000 in
theorem kX10_sees_s {Γ : Cxt} {Q : Int32 → XT → YT → Prop} (O : Ok Γ RX10 cX10_sees 3 { frames := 5, cells := 0, slots := 0, locals := 116 }) (r : Ret Γ (some .int) (qI Q)) {p0 : Int32} {p1 : Int32} {X : XT} {Y : YT} (h : BX10_sees_s Q p0 p1 X Y) : V Γ 0 [(0, .ref 48), (1, .int p0), (2, .int p1)] [] X Y := by
  refine v_iload_n O dX10_sees_0 rfl 1 rfl ?_
  refine v_i2l O dX10_sees_1 ?_
  refine v_lconst O dX10_sees_2 (v := 0) (by decide) ?_
  refine v_ldc2 O dX10_sees_3 kl_X10_140 ?_
  refine v_callS (rm' := { frames := 0, cells := 0, slots := 0, locals := 0 }) (As := [.long (p0.toInt64), .long (0 : Int64), .long (15 : Int64)]) (st := []) O dX10_sees_6 ci_X10_in ml_X10_108 ms_X10_in ⟨rfl, rfl, (by decide), (by decide)⟩ rfl (Nat.le_of_ble_eq_true rfl) rfl (mX10_in h) (k_I (fun r1 X2 Y3 h4 => ?_))
  refine v_if_eq (tgt := 20) O dX10_sees_9 (by decide) (fun g5 => ?_) (fun g5 => ?_)
  · refine v_sipush O dX10_sees_20 ks_m1001 ?_
    exact v_iret O r dX10_sees_23 ⟨_, rfl, (h4.1 g5)⟩
  · refine v_aload_n O dX10_sees_12 rfl 0 rfl ?_
    refine v_iload_n O dX10_sees_13 rfl 2 rfl ?_
    refine v_callV (rm' := { frames := 1, cells := 0, slots := 0, locals := 25 }) (As := [.int p1]) (st := []) O dX10_sees_14 ci_X10_noBar ml_X10_231 mi_X10_noBar sh_48 rfl ⟨rfl, rfl, (by decide), (by decide)⟩ rfl (Nat.le_of_ble_eq_true rfl) rfl (mX10_noBar (h4.2 g5)) (k_I (fun r6 X7 Y8 h9 => ?_))
    refine v_if_eq (tgt := 24) O dX10_sees_17 (by decide) (fun g10 => ?_) (fun g10 => ?_)
    · refine v_aload_n O dX10_sees_24 rfl 0 rfl ?_
      refine v_callV (rm' := { frames := 0, cells := 0, slots := 0, locals := 0 }) (As := []) (st := []) O dX10_sees_25 ci_X10_begin ml_X10_296 mi_X10_begin sh_48 rfl ⟨rfl, rfl, (by decide), (by decide)⟩ rfl (Nat.le_of_ble_eq_true rfl) rfl (mX10_begin (h9.1 g10)) (k_V (fun X12 Y13 h14 => ?_))
      refine v_aload_n O dX10_sees_28 rfl 0 rfl ?_
      refine v_iload_n O dX10_sees_29 rfl 1 rfl ?_
      refine v_callV (rm' := { frames := 0, cells := 0, slots := 0, locals := 0 }) (As := [.int p0]) (st := []) O dX10_sees_30 ci_X10_join ml_X10_329 mi_X10_join sh_48 rfl ⟨rfl, rfl, (by decide), (by decide)⟩ rfl (Nat.le_of_ble_eq_true rfl) rfl (mX10_join h14) (k_V (fun X16 Y17 h18 => ?_))
      refine v_aload_n O dX10_sees_33 rfl 0 rfl ?_
      refine v_callV (rm' := { frames := 4, cells := 0, slots := 0, locals := 94 }) (As := []) (st := []) O dX10_sees_34 ci_X10_goThrough ml_X10_299 mi_X10_goThrough sh_48 rfl ⟨rfl, rfl, (by decide), (by decide)⟩ rfl (Nat.le_of_ble_eq_true rfl) rfl (mX10_goThrough h18) (k_I (fun r19 X20 Y21 h22 => ?_))
      refine v_if_eq (tgt := 53) O dX10_sees_37 (by decide) (fun g23 => ?_) (fun g23 => ?_)
      · refine v_sipush O dX10_sees_53 ks_m1005 ?_
        exact v_iret O r dX10_sees_56 ⟨_, rfl, (h22.1 g23)⟩
      · refine v_aload_n O dX10_sees_40 rfl 0 rfl ?_
        refine v_get O dX10_sees_41 fo_X10_92 sh_48 rfl rfl ?_
        refine v_aload_n O dX10_sees_44 rfl 0 rfl ?_
        refine v_iload_n O dX10_sees_45 rfl 2 rfl ?_
        refine v_callV (rm' := { frames := 0, cells := 0, slots := 0, locals := 0 }) (As := [.int p1]) (st := [.ref 75]) O dX10_sees_46 ci_X10_posOf ml_X10_303 mi_X10_posOf sh_48 rfl ⟨rfl, rfl, (by decide), (by decide)⟩ rfl (Nat.le_of_ble_eq_true rfl) rfl (mX10_posOf (h22.2 g23)) (k_I (fun r24 X25 Y26 h27 => ?_))
        refine v_iald O dX10_sees_49 sh_75 h27.1 ?_
        refine v_goto O dX10_sees_50 (tgt := 56) (by decide) ?_
        exact v_iret O r dX10_sees_56 ⟨_, rfl, h27.2⟩
    · refine v_sipush O dX10_sees_20 ks_m1001 ?_
      exact v_iret O r dX10_sees_23 ⟨_, rfl, (h9.2 g10)⟩
set_option maxRecDepth 100000 in
theorem mX10_sees {Γ : Cxt} {p0 : Int32} {p1 : Int32} {X : XT} {Y : YT} {Q : Int32 → XT → YT → Prop} (h : PX10_sees p0 p1 X Y Q) : MT Γ yX10_sees (.code yX10_sees cX10_sees 3 (some .int) :: wl) { frames := 5, cells := 0, slots := 0, locals := 116 } [.ref 48, .int p0, .int p1] X Y (qI Q) :=
  mt_of (by decide) (Nat.le_of_ble_eq_true rfl) (fun Γ _ O r => kX10_sees_s O r  (h ))
theorem dX10_keep_0 : decode cX10_keep 0 = .ok (.aload_n 0, 1) := by decide +kernel
theorem dX10_keep_1 : decode cX10_keep 1 = .ok (.iload_n 1, 1) := by decide +kernel
theorem dX10_keep_2 : decode cX10_keep 2 = .ok (.invokevirtual 326, 3) := by decide +kernel
theorem dX10_keep_5 : decode cX10_keep 5 = .ok (.ifCond .eq 7, 3) := by decide +kernel
theorem dX10_keep_8 : decode cX10_keep 8 = .ok (.sipush (-1001), 3) := by decide +kernel
theorem dX10_keep_11 : decode cX10_keep 11 = .ok (.ireturn, 1) := by decide +kernel
theorem dX10_keep_12 : decode cX10_keep 12 = .ok (.aload_n 0, 1) := by decide +kernel
theorem dX10_keep_13 : decode cX10_keep 13 = .ok (.getfield 172, 3) := by decide +kernel
theorem dX10_keep_16 : decode cX10_keep 16 = .ok (.istore_n 2, 1) := by decide +kernel
theorem dX10_keep_17 : decode cX10_keep 17 = .ok (.aload_n 0, 1) := by decide +kernel
theorem dX10_keep_18 : decode cX10_keep 18 = .ok (.iload_n 1, 1) := by decide +kernel
theorem dX10_keep_19 : decode cX10_keep 19 = .ok (.putfield 172, 3) := by decide +kernel
theorem dX10_keep_22 : decode cX10_keep 22 = .ok (.iload_n 2, 1) := by decide +kernel
theorem dX10_keep_23 : decode cX10_keep 23 = .ok (.ireturn, 1) := by decide +kernel
def BX10_keep_s (Q : Int32 → XT → YT → Prop) (p0 : Int32) (X : XT) (Y : YT) : Prop :=
  PX10_noSet p0 X Y (fun r1 X2 Y3 => ((r1 = 0 → ∀ w6 : Int32, w6 = (X2 48 10) → Q w6 (sX X2 48 10 p0) Y3) ∧ (¬ r1 = 0 → Q (-1001) X2 Y3)))
def PX10_keep (p0 : Int32) (X : XT) (Y : YT) (Q : Int32 → XT → YT → Prop) : Prop :=  BX10_keep_s Q p0 X Y
set_option maxHeartbeats 4000000 in
set_option maxRecDepth 100000 in
theorem kX10_keep_s {Γ : Cxt} {Q : Int32 → XT → YT → Prop} (O : Ok Γ RX10 cX10_keep 3 { frames := 2, cells := 0, slots := 0, locals := 46 }) (r : Ret Γ (some .int) (qI Q)) {p0 : Int32} {X : XT} {Y : YT} (h : BX10_keep_s Q p0 X Y) : V Γ 0 [(0, .ref 48), (1, .int p0)] [] X Y := by
  refine v_aload_n O dX10_keep_0 rfl 0 rfl ?_
  refine v_iload_n O dX10_keep_1 rfl 1 rfl ?_
  refine v_callV (rm' := { frames := 1, cells := 0, slots := 0, locals := 25 }) (As := [.int p0]) (st := []) O dX10_keep_2 ci_X10_noSet ml_X10_326 mi_X10_noSet sh_48 rfl ⟨rfl, rfl, (by decide), (by decide)⟩ rfl (Nat.le_of_ble_eq_true rfl) rfl (mX10_noSet h) (k_I (fun r1 X2 Y3 h4 => ?_))
  refine v_if_eq (tgt := 12) O dX10_keep_5 (by decide) (fun g5 => ?_) (fun g5 => ?_)
  · refine v_aload_n O dX10_keep_12 rfl 0 rfl ?_
    refine v_get O dX10_keep_13 fo_X10_172 sh_48 rfl rfl ?_
    refine v_topi (fun w6 hw7 => ?_)
    refine v_istore_n (lv' := [(2, .int w6), (0, .ref 48), (1, .int p0)]) O dX10_keep_16 rfl (by decide) rfl ?_
    refine v_aload_n O dX10_keep_17 rfl 1 rfl ?_
    refine v_iload_n O dX10_keep_18 rfl 2 rfl ?_
    refine v_putI O dX10_keep_19 fo_X10_172 fp_10_10 sh_48 rfl rfl rfl ?_
    refine v_iload_n O dX10_keep_22 rfl 0 rfl ?_
    exact v_iret O r dX10_keep_23 ⟨_, rfl, ((h4.1 g5) w6 hw7)⟩
  · refine v_sipush O dX10_keep_8 ks_m1001 ?_
    exact v_iret O r dX10_keep_11 ⟨_, rfl, (h4.2 g5)⟩
set_option maxRecDepth 100000 in
theorem mX10_keep {Γ : Cxt} {p0 : Int32} {X : XT} {Y : YT} {Q : Int32 → XT → YT → Prop} (h : PX10_keep p0 X Y Q) : MT Γ yX10_keep (.code yX10_keep cX10_keep 3 (some .int) :: wl) { frames := 2, cells := 0, slots := 0, locals := 46 } [.ref 48, .int p0] X Y (qI Q) :=
  mt_of (by decide) (Nat.le_of_ble_eq_true rfl) (fun Γ _ O r => kX10_keep_s O r  (h ))
theorem dX10_betrayedNow_0 : decode cX10_betrayedNow 0 = .ok (.iconst 0, 1) := by decide +kernel
theorem dX10_betrayedNow_1 : decode cX10_betrayedNow 1 = .ok (.istore_n 1, 1) := by decide +kernel
theorem dX10_betrayedNow_2 : decode cX10_betrayedNow 2 = .ok (.iconst 0, 1) := by decide +kernel
theorem dX10_betrayedNow_3 : decode cX10_betrayedNow 3 = .ok (.istore_n 2, 1) := by decide +kernel
theorem dX10_betrayedNow_4 : decode cX10_betrayedNow 4 = .ok (.iload_n 2, 1) := by decide +kernel
theorem dX10_betrayedNow_5 : decode cX10_betrayedNow 5 = .ok (.aload_n 0, 1) := by decide +kernel
theorem dX10_betrayedNow_6 : decode cX10_betrayedNow 6 = .ok (.getfield 265, 3) := by decide +kernel
theorem dX10_betrayedNow_9 : decode cX10_betrayedNow 9 = .ok (.if_icmp .ge 35, 3) := by decide +kernel
theorem dX10_betrayedNow_12 : decode cX10_betrayedNow 12 = .ok (.iload_n 1, 1) := by decide +kernel
theorem dX10_betrayedNow_13 : decode cX10_betrayedNow 13 = .ok (.aload_n 0, 1) := by decide +kernel
theorem dX10_betrayedNow_14 : decode cX10_betrayedNow 14 = .ok (.getfield 92, 3) := by decide +kernel
theorem dX10_betrayedNow_17 : decode cX10_betrayedNow 17 = .ok (.iload_n 2, 1) := by decide +kernel
theorem dX10_betrayedNow_18 : decode cX10_betrayedNow 18 = .ok (.iaload, 1) := by decide +kernel
theorem dX10_betrayedNow_19 : decode cX10_betrayedNow 19 = .ok (.invokestatic 152, 3) := by decide +kernel
theorem dX10_betrayedNow_22 : decode cX10_betrayedNow 22 = .ok (.iconst 1, 1) := by decide +kernel
theorem dX10_betrayedNow_23 : decode cX10_betrayedNow 23 = .ok (.if_icmp .ne 12, 3) := by decide +kernel
theorem dX10_betrayedNow_26 : decode cX10_betrayedNow 26 = .ok (.aload_n 0, 1) := by decide +kernel
theorem dX10_betrayedNow_27 : decode cX10_betrayedNow 27 = .ok (.getfield 92, 3) := by decide +kernel
theorem dX10_betrayedNow_30 : decode cX10_betrayedNow 30 = .ok (.iload_n 2, 1) := by decide +kernel
theorem dX10_betrayedNow_31 : decode cX10_betrayedNow 31 = .ok (.iaload, 1) := by decide +kernel
theorem dX10_betrayedNow_32 : decode cX10_betrayedNow 32 = .ok (.goto 4, 3) := by decide +kernel
theorem dX10_betrayedNow_35 : decode cX10_betrayedNow 35 = .ok (.iconst 0, 1) := by decide +kernel
theorem dX10_betrayedNow_36 : decode cX10_betrayedNow 36 = .ok (.ior, 1) := by decide +kernel
theorem dX10_betrayedNow_37 : decode cX10_betrayedNow 37 = .ok (.istore_n 1, 1) := by decide +kernel
theorem dX10_betrayedNow_38 : decode cX10_betrayedNow 38 = .ok (.iinc 2 1, 3) := by decide +kernel
theorem dX10_betrayedNow_41 : decode cX10_betrayedNow 41 = .ok (.goto (-37), 3) := by decide +kernel
theorem dX10_betrayedNow_44 : decode cX10_betrayedNow 44 = .ok (.iload_n 1, 1) := by decide +kernel
theorem dX10_betrayedNow_45 : decode cX10_betrayedNow 45 = .ok (.aload_n 0, 1) := by decide +kernel
theorem dX10_betrayedNow_46 : decode cX10_betrayedNow 46 = .ok (.getfield 172, 3) := by decide +kernel
theorem dX10_betrayedNow_49 : decode cX10_betrayedNow 49 = .ok (.iand, 1) := by decide +kernel
theorem dX10_betrayedNow_50 : decode cX10_betrayedNow 50 = .ok (.ireturn, 1) := by decide +kernel
def BX10_betrayedNow_4 (I4 : Int32 → Int32 → XT → YT → Prop) (Q : Int32 → XT → YT → Prop) (a1 : Int32) (a2 : Int32) (X : XT) (Y : YT) : Prop :=
  (((X 48 43) ≤ a2 → Q (a1 &&& (X 48 10)) X Y) ∧ (¬ (X 48 43) ≤ a2 → vp_in a2 20 ∧ PX10_ones (X 75 a2.toNatClampNeg) X Y (fun r2 X3 Y4 => ((¬ r2 = 1 → ∀ w7 : Int32, w7 = (a1 ||| 0) → ∀ w9 : Int32, w9 = a2 + 1 → I4 w7 w9 X3 Y4) ∧ (r2 = 1 → vp_in a2 20 ∧ ∀ w11 : Int32, w11 = (a1 ||| (X3 75 a2.toNatClampNeg)) → ∀ w13 : Int32, w13 = a2 + 1 → I4 w11 w13 X3 Y4)))))
def BX10_betrayedNow_s (I4 : Int32 → Int32 → XT → YT → Prop) (Q : Int32 → XT → YT → Prop) (X : XT) (Y : YT) : Prop :=
  I4 0 0 X Y
def PX10_betrayedNow (X : XT) (Y : YT) (Q : Int32 → XT → YT → Prop) : Prop := ∀ (I4 : Int32 → Int32 → XT → YT → Prop), (∀ (a1 : Int32) (a2 : Int32) (X : XT) (Y : YT), BX10_betrayedNow_4 I4 Q a1 a2 X Y → I4 a1 a2 X Y) → BX10_betrayedNow_s I4 Q X Y
set_option maxHeartbeats 4000000 in
set_option maxRecDepth 100000 in
theorem kX10_betrayedNow_4 {Γ : Cxt} {Q : Int32 → XT → YT → Prop} (O : Ok Γ RX10 cX10_betrayedNow 3 { frames := 1, cells := 0, slots := 0, locals := 22 }) (r : Ret Γ (some .int) (qI Q)) {I4 : Int32 → Int32 → XT → YT → Prop} (e4 : ∀ (a1 : Int32) (a2 : Int32) (X : XT) (Y : YT), I4 a1 a2 X Y → V Γ 4 [(0, .ref 48), (1, .int a1), (2, .int a2)] [] X Y) {a1 : Int32} {a2 : Int32} {X : XT} {Y : YT} (h : BX10_betrayedNow_4 I4 Q a1 a2 X Y) : V Γ 4 [(0, .ref 48), (1, .int a1), (2, .int a2)] [] X Y := by
  refine v_iload_n O dX10_betrayedNow_4 rfl 2 rfl ?_
  refine v_aload_n O dX10_betrayedNow_5 rfl 0 rfl ?_
  refine v_get O dX10_betrayedNow_6 fo_X10_265 sh_48 rfl rfl ?_
  refine v_icmp_ge (tgt := 44) O dX10_betrayedNow_9 (by decide) (fun g1 => ?_) (fun g1 => ?_)
  · refine v_iload_n O dX10_betrayedNow_44 rfl 1 rfl ?_
    refine v_aload_n O dX10_betrayedNow_45 rfl 0 rfl ?_
    refine v_get O dX10_betrayedNow_46 fo_X10_172 sh_48 rfl rfl ?_
    refine v_iand O dX10_betrayedNow_49 ?_
    exact v_iret O r dX10_betrayedNow_50 ⟨_, rfl, (h.1 g1)⟩
  · refine v_iload_n O dX10_betrayedNow_12 rfl 1 rfl ?_
    refine v_aload_n O dX10_betrayedNow_13 rfl 0 rfl ?_
    refine v_get O dX10_betrayedNow_14 fo_X10_92 sh_48 rfl rfl ?_
    refine v_iload_n O dX10_betrayedNow_17 rfl 2 rfl ?_
    refine v_iald O dX10_betrayedNow_18 sh_75 (h.2 g1).1 ?_
    refine v_callS (rm' := { frames := 0, cells := 0, slots := 0, locals := 0 }) (As := [.int (X 75 a2.toNatClampNeg)]) (st := [.int a1]) O dX10_betrayedNow_19 ci_X10_ones ml_X10_152 ms_X10_ones ⟨rfl, rfl, (by decide), (by decide)⟩ rfl (Nat.le_of_ble_eq_true rfl) rfl (mX10_ones (h.2 g1).2) (k_I (fun r2 X3 Y4 h5 => ?_))
    refine v_iconst O dX10_betrayedNow_22 kc_1 ?_
    refine v_icmp_ne (tgt := 35) O dX10_betrayedNow_23 (by decide) (fun g6 => ?_) (fun g6 => ?_)
    · refine v_iconst O dX10_betrayedNow_35 kc_0 ?_
      refine v_ior O dX10_betrayedNow_36 ?_
      refine v_topi (fun w7 hw8 => ?_)
      refine v_istore_n (lv' := [(1, .int w7), (0, .ref 48), (2, .int a2)]) O dX10_betrayedNow_37 rfl (by decide) rfl ?_
      obtain ⟨w9, hw10⟩ : ∃ y : Int32, y = a2 + 1 := ⟨_, rfl⟩
      refine v_iinc (v := w9) (j := 2) O dX10_betrayedNow_38 rfl (by rw [hw10]; exact congrArg _ kc_1) (by decide) (lv' := [(2, .int w9), (1, .int w7), (0, .ref 48)]) rfl ?_
      refine v_goto O dX10_betrayedNow_41 (tgt := 4) (by decide) ?_
      exact v_loc [2, 1, 0] rfl (e4 w7 w9 X3 Y4 (((h5.1 g6) w7 hw8) w9 hw10))
    · refine v_aload_n O dX10_betrayedNow_26 rfl 0 rfl ?_
      refine v_get O dX10_betrayedNow_27 fo_X10_92 sh_48 rfl rfl ?_
      refine v_iload_n O dX10_betrayedNow_30 rfl 2 rfl ?_
      refine v_iald O dX10_betrayedNow_31 sh_75 (h5.2 g6).1 ?_
      refine v_goto O dX10_betrayedNow_32 (tgt := 36) (by decide) ?_
      refine v_ior O dX10_betrayedNow_36 ?_
      refine v_topi (fun w11 hw12 => ?_)
      refine v_istore_n (lv' := [(1, .int w11), (0, .ref 48), (2, .int a2)]) O dX10_betrayedNow_37 rfl (by decide) rfl ?_
      obtain ⟨w13, hw14⟩ : ∃ y : Int32, y = a2 + 1 := ⟨_, rfl⟩
      refine v_iinc (v := w13) (j := 2) O dX10_betrayedNow_38 rfl (by rw [hw14]; exact congrArg _ kc_1) (by decide) (lv' := [(2, .int w13), (1, .int w11), (0, .ref 48)]) rfl ?_
      refine v_goto O dX10_betrayedNow_41 (tgt := 4) (by decide) ?_
      exact v_loc [2, 1, 0] rfl (e4 w11 w13 X3 Y4 (((h5.2 g6).2 w11 hw12) w13 hw14))
set_option maxHeartbeats 4000000 in
set_option maxRecDepth 100000 in
theorem kX10_betrayedNow_s {Γ : Cxt} {Q : Int32 → XT → YT → Prop} (O : Ok Γ RX10 cX10_betrayedNow 3 { frames := 1, cells := 0, slots := 0, locals := 22 }) (r : Ret Γ (some .int) (qI Q)) {I4 : Int32 → Int32 → XT → YT → Prop} (e4 : ∀ (a1 : Int32) (a2 : Int32) (X : XT) (Y : YT), I4 a1 a2 X Y → V Γ 4 [(0, .ref 48), (1, .int a1), (2, .int a2)] [] X Y) {X : XT} {Y : YT} (h : BX10_betrayedNow_s I4 Q X Y) : V Γ 0 [(0, .ref 48)] [] X Y := by
  refine v_iconst O dX10_betrayedNow_0 kc_0 ?_
  refine v_istore_n (lv' := [(1, .int 0), (0, .ref 48)]) O dX10_betrayedNow_1 rfl (by decide) rfl ?_
  refine v_iconst O dX10_betrayedNow_2 kc_0 ?_
  refine v_istore_n (lv' := [(2, .int 0), (1, .int 0), (0, .ref 48)]) O dX10_betrayedNow_3 rfl (by decide) rfl ?_
  exact v_loc [2, 1, 0] rfl (e4 0 0 X Y h)
set_option maxRecDepth 100000 in
theorem mX10_betrayedNow {Γ : Cxt} {X : XT} {Y : YT} {Q : Int32 → XT → YT → Prop} (h : PX10_betrayedNow X Y Q) : MT Γ yX10_betrayedNow (.code yX10_betrayedNow cX10_betrayedNow 3 (some .int) :: wl) { frames := 1, cells := 0, slots := 0, locals := 22 } [.ref 48] X Y (qI Q) :=
  mt_of (by decide) (Nat.le_of_ble_eq_true rfl) (fun Γ _ O r => kX10_betrayedNow_s O r (fun _ _ _ _ g => g) (h (fun a1 a2 X Y => V Γ 4 [(0, .ref 48), (1, .int a1), (2, .int a2)] [] X Y) (fun _ _ _ _ g => kX10_betrayedNow_4 O r (fun _ _ _ _ g => g) g)))
theorem dX10_betrayed_0 : decode cX10_betrayed 0 = .ok (.iload_n 1, 1) := by decide +kernel
theorem dX10_betrayed_1 : decode cX10_betrayed 1 = .ok (.i2l, 1) := by decide +kernel
theorem dX10_betrayed_2 : decode cX10_betrayed 2 = .ok (.lconst 0, 1) := by decide +kernel
theorem dX10_betrayed_3 : decode cX10_betrayed 3 = .ok (.ldc2_w 140, 3) := by decide +kernel
theorem dX10_betrayed_6 : decode cX10_betrayed 6 = .ok (.invokestatic 108, 3) := by decide +kernel
theorem dX10_betrayed_9 : decode cX10_betrayed 9 = .ok (.ifCond .ne 7, 3) := by decide +kernel
theorem dX10_betrayed_12 : decode cX10_betrayed 12 = .ok (.sipush (-1001), 3) := by decide +kernel
theorem dX10_betrayed_15 : decode cX10_betrayed 15 = .ok (.ireturn, 1) := by decide +kernel
theorem dX10_betrayed_16 : decode cX10_betrayed 16 = .ok (.aload_n 0, 1) := by decide +kernel
theorem dX10_betrayed_17 : decode cX10_betrayed 17 = .ok (.invokevirtual 296, 3) := by decide +kernel
theorem dX10_betrayed_20 : decode cX10_betrayed 20 = .ok (.aload_n 0, 1) := by decide +kernel
theorem dX10_betrayed_21 : decode cX10_betrayed 21 = .ok (.iload_n 1, 1) := by decide +kernel
theorem dX10_betrayed_22 : decode cX10_betrayed 22 = .ok (.invokevirtual 329, 3) := by decide +kernel
theorem dX10_betrayed_25 : decode cX10_betrayed 25 = .ok (.aload_n 0, 1) := by decide +kernel
theorem dX10_betrayed_26 : decode cX10_betrayed 26 = .ok (.invokevirtual 299, 3) := by decide +kernel
theorem dX10_betrayed_29 : decode cX10_betrayed 29 = .ok (.ifCond .eq 10, 3) := by decide +kernel
theorem dX10_betrayed_32 : decode cX10_betrayed 32 = .ok (.aload_n 0, 1) := by decide +kernel
theorem dX10_betrayed_33 : decode cX10_betrayed 33 = .ok (.invokevirtual 332, 3) := by decide +kernel
theorem dX10_betrayed_36 : decode cX10_betrayed 36 = .ok (.goto 6, 3) := by decide +kernel
theorem dX10_betrayed_39 : decode cX10_betrayed 39 = .ok (.sipush (-1005), 3) := by decide +kernel
theorem dX10_betrayed_42 : decode cX10_betrayed 42 = .ok (.ireturn, 1) := by decide +kernel
def BX10_betrayed_s (Q : Int32 → XT → YT → Prop) (p0 : Int32) (X : XT) (Y : YT) : Prop :=
  PX10_in (p0.toInt64) (0 : Int64) (15 : Int64) X Y (fun r1 X2 Y3 => ((¬ r1 = 0 → PX10_begin X2 Y3 (fun X7 Y8 => PX10_join p0 X7 Y8 (fun X11 Y12 => PX10_goThrough X11 Y12 (fun r14 X15 Y16 => ((r14 = 0 → Q (-1005) X15 Y16) ∧ (¬ r14 = 0 → PX10_betrayedNow X15 Y16 (fun r19 X20 Y21 => Q r19 X20 Y21))))))) ∧ (r1 = 0 → Q (-1001) X2 Y3)))
def PX10_betrayed (p0 : Int32) (X : XT) (Y : YT) (Q : Int32 → XT → YT → Prop) : Prop :=  BX10_betrayed_s Q p0 X Y
set_option maxHeartbeats 4000000 in
set_option maxRecDepth 100000 in
theorem kX10_betrayed_s {Γ : Cxt} {Q : Int32 → XT → YT → Prop} (O : Ok Γ RX10 cX10_betrayed 2 { frames := 5, cells := 0, slots := 0, locals := 116 }) (r : Ret Γ (some .int) (qI Q)) {p0 : Int32} {X : XT} {Y : YT} (h : BX10_betrayed_s Q p0 X Y) : V Γ 0 [(0, .ref 48), (1, .int p0)] [] X Y := by
  refine v_iload_n O dX10_betrayed_0 rfl 1 rfl ?_
  refine v_i2l O dX10_betrayed_1 ?_
  refine v_lconst O dX10_betrayed_2 (v := 0) (by decide) ?_
  refine v_ldc2 O dX10_betrayed_3 kl_X10_140 ?_
  refine v_callS (rm' := { frames := 0, cells := 0, slots := 0, locals := 0 }) (As := [.long (p0.toInt64), .long (0 : Int64), .long (15 : Int64)]) (st := []) O dX10_betrayed_6 ci_X10_in ml_X10_108 ms_X10_in ⟨rfl, rfl, (by decide), (by decide)⟩ rfl (Nat.le_of_ble_eq_true rfl) rfl (mX10_in h) (k_I (fun r1 X2 Y3 h4 => ?_))
  refine v_if_ne (tgt := 16) O dX10_betrayed_9 (by decide) (fun g5 => ?_) (fun g5 => ?_)
  · refine v_aload_n O dX10_betrayed_16 rfl 0 rfl ?_
    refine v_callV (rm' := { frames := 0, cells := 0, slots := 0, locals := 0 }) (As := []) (st := []) O dX10_betrayed_17 ci_X10_begin ml_X10_296 mi_X10_begin sh_48 rfl ⟨rfl, rfl, (by decide), (by decide)⟩ rfl (Nat.le_of_ble_eq_true rfl) rfl (mX10_begin (h4.1 g5)) (k_V (fun X7 Y8 h9 => ?_))
    refine v_aload_n O dX10_betrayed_20 rfl 0 rfl ?_
    refine v_iload_n O dX10_betrayed_21 rfl 1 rfl ?_
    refine v_callV (rm' := { frames := 0, cells := 0, slots := 0, locals := 0 }) (As := [.int p0]) (st := []) O dX10_betrayed_22 ci_X10_join ml_X10_329 mi_X10_join sh_48 rfl ⟨rfl, rfl, (by decide), (by decide)⟩ rfl (Nat.le_of_ble_eq_true rfl) rfl (mX10_join h9) (k_V (fun X11 Y12 h13 => ?_))
    refine v_aload_n O dX10_betrayed_25 rfl 0 rfl ?_
    refine v_callV (rm' := { frames := 4, cells := 0, slots := 0, locals := 94 }) (As := []) (st := []) O dX10_betrayed_26 ci_X10_goThrough ml_X10_299 mi_X10_goThrough sh_48 rfl ⟨rfl, rfl, (by decide), (by decide)⟩ rfl (Nat.le_of_ble_eq_true rfl) rfl (mX10_goThrough h13) (k_I (fun r14 X15 Y16 h17 => ?_))
    refine v_if_eq (tgt := 39) O dX10_betrayed_29 (by decide) (fun g18 => ?_) (fun g18 => ?_)
    · refine v_sipush O dX10_betrayed_39 ks_m1005 ?_
      exact v_iret O r dX10_betrayed_42 ⟨_, rfl, (h17.1 g18)⟩
    · refine v_aload_n O dX10_betrayed_32 rfl 0 rfl ?_
      refine v_callV (rm' := { frames := 1, cells := 0, slots := 0, locals := 22 }) (As := []) (st := []) O dX10_betrayed_33 ci_X10_betrayedNow ml_X10_332 mi_X10_betrayedNow sh_48 rfl ⟨rfl, rfl, (by decide), (by decide)⟩ rfl (Nat.le_of_ble_eq_true rfl) rfl (mX10_betrayedNow (h17.2 g18)) (k_I (fun r19 X20 Y21 h22 => ?_))
      refine v_goto O dX10_betrayed_36 (tgt := 42) (by decide) ?_
      exact v_iret O r dX10_betrayed_42 ⟨_, rfl, h22⟩
  · refine v_sipush O dX10_betrayed_12 ks_m1001 ?_
    exact v_iret O r dX10_betrayed_15 ⟨_, rfl, (h4.2 g5)⟩
set_option maxRecDepth 100000 in
theorem mX10_betrayed {Γ : Cxt} {p0 : Int32} {X : XT} {Y : YT} {Q : Int32 → XT → YT → Prop} (h : PX10_betrayed p0 X Y Q) : MT Γ yX10_betrayed (.code yX10_betrayed cX10_betrayed 2 (some .int) :: wl) { frames := 5, cells := 0, slots := 0, locals := 116 } [.ref 48, .int p0] X Y (qI Q) :=
  mt_of (by decide) (Nat.le_of_ble_eq_true rfl) (fun Γ _ O r => kX10_betrayed_s O r  (h ))
theorem dX10_showsKept_0 : decode cX10_showsKept 0 = .ok (.aload_n 0, 1) := by decide +kernel
theorem dX10_showsKept_1 : decode cX10_showsKept 1 = .ok (.invokevirtual 287, 3) := by decide +kernel
theorem dX10_showsKept_4 : decode cX10_showsKept 4 = .ok (.iconst 0, 1) := by decide +kernel
theorem dX10_showsKept_5 : decode cX10_showsKept 5 = .ok (.istore_n 2, 1) := by decide +kernel
theorem dX10_showsKept_6 : decode cX10_showsKept 6 = .ok (.iconst 0, 1) := by decide +kernel
theorem dX10_showsKept_7 : decode cX10_showsKept 7 = .ok (.istore_n 3, 1) := by decide +kernel
theorem dX10_showsKept_8 : decode cX10_showsKept 8 = .ok (.iload_n 3, 1) := by decide +kernel
theorem dX10_showsKept_9 : decode cX10_showsKept 9 = .ok (.aload_n 0, 1) := by decide +kernel
theorem dX10_showsKept_10 : decode cX10_showsKept 10 = .ok (.getfield 156, 3) := by decide +kernel
theorem dX10_showsKept_13 : decode cX10_showsKept 13 = .ok (.if_icmp .ge 42, 3) := by decide +kernel
theorem dX10_showsKept_16 : decode cX10_showsKept 16 = .ok (.iload_n 2, 1) := by decide +kernel
theorem dX10_showsKept_17 : decode cX10_showsKept 17 = .ok (.ifCond .ne 26, 3) := by decide +kernel
theorem dX10_showsKept_20 : decode cX10_showsKept 20 = .ok (.iload_n 1, 1) := by decide +kernel
theorem dX10_showsKept_21 : decode cX10_showsKept 21 = .ok (.iload_n 3, 1) := by decide +kernel
theorem dX10_showsKept_22 : decode cX10_showsKept 22 = .ok (.ishr, 1) := by decide +kernel
theorem dX10_showsKept_23 : decode cX10_showsKept 23 = .ok (.iconst 1, 1) := by decide +kernel
theorem dX10_showsKept_24 : decode cX10_showsKept 24 = .ok (.iand, 1) := by decide +kernel
theorem dX10_showsKept_25 : decode cX10_showsKept 25 = .ok (.iconst 1, 1) := by decide +kernel
theorem dX10_showsKept_26 : decode cX10_showsKept 26 = .ok (.if_icmp .ne 21, 3) := by decide +kernel
theorem dX10_showsKept_29 : decode cX10_showsKept 29 = .ok (.aload_n 0, 1) := by decide +kernel
theorem dX10_showsKept_30 : decode cX10_showsKept 30 = .ok (.getfield 99, 3) := by decide +kernel
theorem dX10_showsKept_33 : decode cX10_showsKept 33 = .ok (.iload_n 3, 1) := by decide +kernel
theorem dX10_showsKept_34 : decode cX10_showsKept 34 = .ok (.iaload, 1) := by decide +kernel
theorem dX10_showsKept_35 : decode cX10_showsKept 35 = .ok (.aload_n 0, 1) := by decide +kernel
theorem dX10_showsKept_36 : decode cX10_showsKept 36 = .ok (.getfield 172, 3) := by decide +kernel
theorem dX10_showsKept_39 : decode cX10_showsKept 39 = .ok (.iand, 1) := by decide +kernel
theorem dX10_showsKept_40 : decode cX10_showsKept 40 = .ok (.ifCond .eq 7, 3) := by decide +kernel
theorem dX10_showsKept_43 : decode cX10_showsKept 43 = .ok (.iconst 1, 1) := by decide +kernel
theorem dX10_showsKept_44 : decode cX10_showsKept 44 = .ok (.goto 4, 3) := by decide +kernel
theorem dX10_showsKept_47 : decode cX10_showsKept 47 = .ok (.iconst 0, 1) := by decide +kernel
theorem dX10_showsKept_48 : decode cX10_showsKept 48 = .ok (.istore_n 2, 1) := by decide +kernel
theorem dX10_showsKept_49 : decode cX10_showsKept 49 = .ok (.iinc 3 1, 3) := by decide +kernel
theorem dX10_showsKept_52 : decode cX10_showsKept 52 = .ok (.goto (-44), 3) := by decide +kernel
theorem dX10_showsKept_55 : decode cX10_showsKept 55 = .ok (.iload_n 2, 1) := by decide +kernel
theorem dX10_showsKept_56 : decode cX10_showsKept 56 = .ok (.ireturn, 1) := by decide +kernel
def BX10_showsKept_8 (I8 : Int32 → Int32 → Int32 → XT → YT → Prop) (Q : Int32 → XT → YT → Prop) (a1 : Int32) (a2 : Int32) (a3 : Int32) (X : XT) (Y : YT) : Prop :=
  (((X 48 13) ≤ a3 → narrow .boolean (.int a2) = .int a2 ∧ Q a2 X Y) ∧ (¬ (X 48 13) ≤ a3 → ((¬ a2 = 0 → ∀ w3 : Int32, w3 = a3 + 1 → I8 a1 1 w3 X Y) ∧ (a2 = 0 → ((¬ ((a1 >>> (a3 &&& 31)) &&& 1) = 1 → ∀ w6 : Int32, w6 = a3 + 1 → I8 a1 0 w6 X Y) ∧ (((a1 >>> (a3 &&& 31)) &&& 1) = 1 → vp_in a3 8 ∧ ((((X 77 a3.toNatClampNeg) &&& (X 48 10)) = 0 → ∀ w9 : Int32, w9 = a3 + 1 → I8 a1 0 w9 X Y) ∧ (¬ ((X 77 a3.toNatClampNeg) &&& (X 48 10)) = 0 → ∀ w11 : Int32, w11 = a3 + 1 → I8 a1 1 w11 X Y))))))))
def BX10_showsKept_s (I8 : Int32 → Int32 → Int32 → XT → YT → Prop) (Q : Int32 → XT → YT → Prop) (p0 : Int32) (X : XT) (Y : YT) : Prop :=
  PX10_findShown X Y (fun X2 Y3 => I8 p0 0 0 X2 Y3)
def PX10_showsKept (p0 : Int32) (X : XT) (Y : YT) (Q : Int32 → XT → YT → Prop) : Prop := ∀ (I8 : Int32 → Int32 → Int32 → XT → YT → Prop), (∀ (a1 : Int32) (a2 : Int32) (a3 : Int32) (X : XT) (Y : YT), BX10_showsKept_8 I8 Q a1 a2 a3 X Y → I8 a1 a2 a3 X Y) → BX10_showsKept_s I8 Q p0 X Y
set_option maxHeartbeats 4000000 in
set_option maxRecDepth 100000 in
theorem kX10_showsKept_8 {Γ : Cxt} {Q : Int32 → XT → YT → Prop} (O : Ok Γ RX10 cX10_showsKept 4 { frames := 2, cells := 0, slots := 0, locals := 44 }) (r : Ret Γ (some .boolean) (qI Q)) {I8 : Int32 → Int32 → Int32 → XT → YT → Prop} (e8 : ∀ (a1 : Int32) (a2 : Int32) (a3 : Int32) (X : XT) (Y : YT), I8 a1 a2 a3 X Y → V Γ 8 [(0, .ref 48), (1, .int a1), (2, .int a2), (3, .int a3)] [] X Y) {a1 : Int32} {a2 : Int32} {a3 : Int32} {X : XT} {Y : YT} (h : BX10_showsKept_8 I8 Q a1 a2 a3 X Y) : V Γ 8 [(0, .ref 48), (1, .int a1), (2, .int a2), (3, .int a3)] [] X Y := by
  refine v_iload_n O dX10_showsKept_8 rfl 3 rfl ?_
  refine v_aload_n O dX10_showsKept_9 rfl 0 rfl ?_
  refine v_get O dX10_showsKept_10 fo_X10_156 sh_48 rfl rfl ?_
  refine v_icmp_ge (tgt := 55) O dX10_showsKept_13 (by decide) (fun g1 => ?_) (fun g1 => ?_)
  · refine v_iload_n O dX10_showsKept_55 rfl 2 rfl ?_
    exact v_zret O r dX10_showsKept_56 (h.1 g1).1 ⟨_, rfl, (h.1 g1).2⟩
  · refine v_iload_n O dX10_showsKept_16 rfl 2 rfl ?_
    refine v_if_ne (tgt := 43) O dX10_showsKept_17 (by decide) (fun g2 => ?_) (fun g2 => ?_)
    · refine v_iconst O dX10_showsKept_43 kc_1 ?_
      refine v_goto O dX10_showsKept_44 (tgt := 48) (by decide) ?_
      refine v_istore_n (lv' := [(2, .int 1), (0, .ref 48), (1, .int a1), (3, .int a3)]) O dX10_showsKept_48 rfl (by decide) rfl ?_
      obtain ⟨w3, hw4⟩ : ∃ y : Int32, y = a3 + 1 := ⟨_, rfl⟩
      refine v_iinc (v := w3) (j := 3) O dX10_showsKept_49 rfl (by rw [hw4]; exact congrArg _ kc_1) (by decide) (lv' := [(3, .int w3), (2, .int 1), (0, .ref 48), (1, .int a1)]) rfl ?_
      refine v_goto O dX10_showsKept_52 (tgt := 8) (by decide) ?_
      exact v_loc [2, 3, 1, 0] rfl (e8 a1 1 w3 X Y (((h.2 g1).1 g2) w3 hw4))
    · refine v_iload_n O dX10_showsKept_20 rfl 1 rfl ?_
      refine v_iload_n O dX10_showsKept_21 rfl 3 rfl ?_
      refine v_ishr O dX10_showsKept_22 ?_
      refine v_iconst O dX10_showsKept_23 kc_1 ?_
      refine v_iand O dX10_showsKept_24 ?_
      refine v_iconst O dX10_showsKept_25 kc_1 ?_
      refine v_icmp_ne (tgt := 47) O dX10_showsKept_26 (by decide) (fun g5 => ?_) (fun g5 => ?_)
      · refine v_iconst O dX10_showsKept_47 kc_0 ?_
        refine v_istore_n (lv' := [(2, .int 0), (0, .ref 48), (1, .int a1), (3, .int a3)]) O dX10_showsKept_48 rfl (by decide) rfl ?_
        obtain ⟨w6, hw7⟩ : ∃ y : Int32, y = a3 + 1 := ⟨_, rfl⟩
        refine v_iinc (v := w6) (j := 3) O dX10_showsKept_49 rfl (by rw [hw7]; exact congrArg _ kc_1) (by decide) (lv' := [(3, .int w6), (2, .int 0), (0, .ref 48), (1, .int a1)]) rfl ?_
        refine v_goto O dX10_showsKept_52 (tgt := 8) (by decide) ?_
        exact v_loc [2, 3, 1, 0] rfl (e8 a1 0 w6 X Y ((((h.2 g1).2 g2).1 g5) w6 hw7))
      · refine v_aload_n O dX10_showsKept_29 rfl 0 rfl ?_
        refine v_get O dX10_showsKept_30 fo_X10_99 sh_48 rfl rfl ?_
        refine v_iload_n O dX10_showsKept_33 rfl 3 rfl ?_
        refine v_iald O dX10_showsKept_34 sh_77 (((h.2 g1).2 g2).2 g5).1 ?_
        refine v_aload_n O dX10_showsKept_35 rfl 0 rfl ?_
        refine v_get O dX10_showsKept_36 fo_X10_172 sh_48 rfl rfl ?_
        refine v_iand O dX10_showsKept_39 ?_
        refine v_if_eq (tgt := 47) O dX10_showsKept_40 (by decide) (fun g8 => ?_) (fun g8 => ?_)
        · refine v_iconst O dX10_showsKept_47 kc_0 ?_
          refine v_istore_n (lv' := [(2, .int 0), (0, .ref 48), (1, .int a1), (3, .int a3)]) O dX10_showsKept_48 rfl (by decide) rfl ?_
          obtain ⟨w9, hw10⟩ : ∃ y : Int32, y = a3 + 1 := ⟨_, rfl⟩
          refine v_iinc (v := w9) (j := 3) O dX10_showsKept_49 rfl (by rw [hw10]; exact congrArg _ kc_1) (by decide) (lv' := [(3, .int w9), (2, .int 0), (0, .ref 48), (1, .int a1)]) rfl ?_
          refine v_goto O dX10_showsKept_52 (tgt := 8) (by decide) ?_
          exact v_loc [2, 3, 1, 0] rfl (e8 a1 0 w9 X Y (((((h.2 g1).2 g2).2 g5).2.1 g8) w9 hw10))
        · refine v_iconst O dX10_showsKept_43 kc_1 ?_
          refine v_goto O dX10_showsKept_44 (tgt := 48) (by decide) ?_
          refine v_istore_n (lv' := [(2, .int 1), (0, .ref 48), (1, .int a1), (3, .int a3)]) O dX10_showsKept_48 rfl (by decide) rfl ?_
          obtain ⟨w11, hw12⟩ : ∃ y : Int32, y = a3 + 1 := ⟨_, rfl⟩
          refine v_iinc (v := w11) (j := 3) O dX10_showsKept_49 rfl (by rw [hw12]; exact congrArg _ kc_1) (by decide) (lv' := [(3, .int w11), (2, .int 1), (0, .ref 48), (1, .int a1)]) rfl ?_
          refine v_goto O dX10_showsKept_52 (tgt := 8) (by decide) ?_
          exact v_loc [2, 3, 1, 0] rfl (e8 a1 1 w11 X Y (((((h.2 g1).2 g2).2 g5).2.2 g8) w11 hw12))
set_option maxHeartbeats 4000000 in
set_option maxRecDepth 100000 in
theorem kX10_showsKept_s {Γ : Cxt} {Q : Int32 → XT → YT → Prop} (O : Ok Γ RX10 cX10_showsKept 4 { frames := 2, cells := 0, slots := 0, locals := 44 }) (r : Ret Γ (some .boolean) (qI Q)) {I8 : Int32 → Int32 → Int32 → XT → YT → Prop} (e8 : ∀ (a1 : Int32) (a2 : Int32) (a3 : Int32) (X : XT) (Y : YT), I8 a1 a2 a3 X Y → V Γ 8 [(0, .ref 48), (1, .int a1), (2, .int a2), (3, .int a3)] [] X Y) {p0 : Int32} {X : XT} {Y : YT} (h : BX10_showsKept_s I8 Q p0 X Y) : V Γ 0 [(0, .ref 48), (1, .int p0)] [] X Y := by
  refine v_aload_n O dX10_showsKept_0 rfl 0 rfl ?_
  refine v_callV (rm' := { frames := 1, cells := 0, slots := 0, locals := 23 }) (As := []) (st := []) O dX10_showsKept_1 ci_X10_findShown ml_X10_287 mi_X10_findShown sh_48 rfl ⟨rfl, rfl, (by decide), (by decide)⟩ rfl (Nat.le_of_ble_eq_true rfl) rfl (mX10_findShown h) (k_V (fun X2 Y3 h4 => ?_))
  refine v_iconst O dX10_showsKept_4 kc_0 ?_
  refine v_istore_n (lv' := [(2, .int 0), (0, .ref 48), (1, .int p0)]) O dX10_showsKept_5 rfl (by decide) rfl ?_
  refine v_iconst O dX10_showsKept_6 kc_0 ?_
  refine v_istore_n (lv' := [(3, .int 0), (2, .int 0), (0, .ref 48), (1, .int p0)]) O dX10_showsKept_7 rfl (by decide) rfl ?_
  exact v_loc [2, 3, 1, 0] rfl (e8 p0 0 0 X2 Y3 h4)
set_option maxRecDepth 100000 in
theorem mX10_showsKept {Γ : Cxt} {p0 : Int32} {X : XT} {Y : YT} {Q : Int32 → XT → YT → Prop} (h : PX10_showsKept p0 X Y Q) : MT Γ yX10_showsKept (.code yX10_showsKept cX10_showsKept 4 (some .boolean) :: wl) { frames := 2, cells := 0, slots := 0, locals := 44 } [.ref 48, .int p0] X Y (qI Q) :=
  mt_of (by decide) (Nat.le_of_ble_eq_true rfl) (fun Γ _ O r => kX10_showsKept_s O r (fun _ _ _ _ _ g => g) (h (fun a1 a2 a3 X Y => V Γ 8 [(0, .ref 48), (1, .int a1), (2, .int a2), (3, .int a3)] [] X Y) (fun _ _ _ _ _ g => kX10_showsKept_8 O r (fun _ _ _ _ _ g => g) g)))
