theorem dX1_widthOf_0 : decode cX1_widthOf 0 = .ok (.aload_n 0, 1) := by decide +kernel
theorem dX1_widthOf_1 : decode cX1_widthOf 1 = .ok (.getfield 21, 3) := by decide +kernel
theorem dX1_widthOf_4 : decode cX1_widthOf 4 = .ok (.iload_n 2, 1) := by decide +kernel
theorem dX1_widthOf_5 : decode cX1_widthOf 5 = .ok (.bipush 10, 2) := by decide +kernel
theorem dX1_widthOf_7 : decode cX1_widthOf 7 = .ok (.imul, 1) := by decide +kernel
theorem dX1_widthOf_8 : decode cX1_widthOf 8 = .ok (.iload_n 1, 1) := by decide +kernel
theorem dX1_widthOf_9 : decode cX1_widthOf 9 = .ok (.iadd, 1) := by decide +kernel
theorem dX1_widthOf_10 : decode cX1_widthOf 10 = .ok (.iaload, 1) := by decide +kernel
theorem dX1_widthOf_11 : decode cX1_widthOf 11 = .ok (.ireturn, 1) := by decide +kernel
def BX1_widthOf_s (Q : Int32 → XT → YT → Prop) (p0 : Int32) (p1 : Int32) (X : XT) (Y : YT) : Prop :=
  vp_in ((p1 * 10) + p0) 20 ∧ Q (X 7 ((p1 * 10) + p0).toNatClampNeg) X Y
def PX1_widthOf (p0 : Int32) (p1 : Int32) (X : XT) (Y : YT) (Q : Int32 → XT → YT → Prop) : Prop :=  BX1_widthOf_s Q p0 p1 X Y
set_option maxHeartbeats 4000000 in
set_option maxRecDepth 100000 in
theorem kX1_widthOf_s {Γ : Cxt} {Q : Int32 → XT → YT → Prop} (O : Ok Γ RX1 cX1_widthOf 3 { frames := 0, cells := 0, slots := 0, locals := 0 }) (r : Ret Γ (some .int) (qI Q)) {p0 : Int32} {p1 : Int32} {X : XT} {Y : YT} (h : BX1_widthOf_s Q p0 p1 X Y) : V Γ 0 [(0, .ref 3), (1, .int p0), (2, .int p1)] [] X Y := by
  refine v_aload_n O dX1_widthOf_0 rfl 0 rfl ?_
  refine v_get O dX1_widthOf_1 fo_X1_21 sh_3 rfl rfl ?_
  refine v_iload_n O dX1_widthOf_4 rfl 2 rfl ?_
  refine v_bipush O dX1_widthOf_5 kb_10 ?_
  refine v_imul O dX1_widthOf_7 ?_
  refine v_iload_n O dX1_widthOf_8 rfl 1 rfl ?_
  refine v_iadd O dX1_widthOf_9 ?_
  refine v_iald O dX1_widthOf_10 sh_7 h.1 ?_
  exact v_iret O r dX1_widthOf_11 ⟨_, rfl, h.2⟩
set_option maxRecDepth 100000 in
theorem mX1_widthOf {Γ : Cxt} {p0 : Int32} {p1 : Int32} {X : XT} {Y : YT} {Q : Int32 → XT → YT → Prop} (h : PX1_widthOf p0 p1 X Y Q) : MT Γ yX1_widthOf (.code yX1_widthOf cX1_widthOf 3 (some .int) :: wl) { frames := 0, cells := 0, slots := 0, locals := 0 } [.ref 3, .int p0, .int p1] X Y (qI Q) :=
  mt_of (by decide) (Nat.le_of_ble_eq_true rfl) (fun Γ _ O r => kX1_widthOf_s O r  (h ))
theorem dX0_widthAt_0 : decode cX0_widthAt 0 = .ok (.aload_n 0, 1) := by decide +kernel
theorem dX0_widthAt_1 : decode cX0_widthAt 1 = .ok (.getfield 25, 3) := by decide +kernel
theorem dX0_widthAt_4 : decode cX0_widthAt 4 = .ok (.getfield 33, 3) := by decide +kernel
theorem dX0_widthAt_7 : decode cX0_widthAt 7 = .ok (.iload_n 1, 1) := by decide +kernel
theorem dX0_widthAt_8 : decode cX0_widthAt 8 = .ok (.iaload, 1) := by decide +kernel
theorem dX0_widthAt_9 : decode cX0_widthAt 9 = .ok (.istore_n 2, 1) := by decide +kernel
theorem dX0_widthAt_10 : decode cX0_widthAt 10 = .ok (.iload_n 2, 1) := by decide +kernel
theorem dX0_widthAt_11 : decode cX0_widthAt 11 = .ok (.iconst (-1), 1) := by decide +kernel
theorem dX0_widthAt_12 : decode cX0_widthAt 12 = .ok (.if_icmp .ne 15, 3) := by decide +kernel
theorem dX0_widthAt_15 : decode cX0_widthAt 15 = .ok (.aload_n 0, 1) := by decide +kernel
theorem dX0_widthAt_16 : decode cX0_widthAt 16 = .ok (.getfield 25, 3) := by decide +kernel
theorem dX0_widthAt_19 : decode cX0_widthAt 19 = .ok (.getfield 38, 3) := by decide +kernel
theorem dX0_widthAt_22 : decode cX0_widthAt 22 = .ok (.iload_n 1, 1) := by decide +kernel
theorem dX0_widthAt_23 : decode cX0_widthAt 23 = .ok (.iaload, 1) := by decide +kernel
theorem dX0_widthAt_24 : decode cX0_widthAt 24 = .ok (.goto 28, 3) := by decide +kernel
theorem dX0_widthAt_27 : decode cX0_widthAt 27 = .ok (.aload_n 0, 1) := by decide +kernel
theorem dX0_widthAt_28 : decode cX0_widthAt 28 = .ok (.getfield 21, 3) := by decide +kernel
theorem dX0_widthAt_31 : decode cX0_widthAt 31 = .ok (.iload_n 2, 1) := by decide +kernel
theorem dX0_widthAt_32 : decode cX0_widthAt 32 = .ok (.aload_n 0, 1) := by decide +kernel
theorem dX0_widthAt_33 : decode cX0_widthAt 33 = .ok (.getfield 25, 3) := by decide +kernel
theorem dX0_widthAt_36 : decode cX0_widthAt 36 = .ok (.getfield 41, 3) := by decide +kernel
theorem dX0_widthAt_39 : decode cX0_widthAt 39 = .ok (.aload_n 0, 1) := by decide +kernel
theorem dX0_widthAt_40 : decode cX0_widthAt 40 = .ok (.getfield 25, 3) := by decide +kernel
theorem dX0_widthAt_43 : decode cX0_widthAt 43 = .ok (.getfield 44, 3) := by decide +kernel
theorem dX0_widthAt_46 : decode cX0_widthAt 46 = .ok (.iload_n 1, 1) := by decide +kernel
theorem dX0_widthAt_47 : decode cX0_widthAt 47 = .ok (.iaload, 1) := by decide +kernel
theorem dX0_widthAt_48 : decode cX0_widthAt 48 = .ok (.iaload, 1) := by decide +kernel
theorem dX0_widthAt_49 : decode cX0_widthAt 49 = .ok (.invokevirtual 47, 3) := by decide +kernel
theorem dX0_widthAt_52 : decode cX0_widthAt 52 = .ok (.ireturn, 1) := by decide +kernel
def BX0_widthAt_s (Q : Int32 → XT → YT → Prop) (p0 : Int32) (X : XT) (Y : YT) : Prop :=
  vp_in p0 32 ∧ ∀ w1 : Int32, w1 = (X 18 p0.toNatClampNeg) → ((¬ w1 = (-1) → vp_in p0 32 ∧ vp_in (X 16 p0.toNatClampNeg) 8 ∧ PX1_widthOf w1 (X 15 (X 16 p0.toNatClampNeg).toNatClampNeg) X Y (fun r4 X5 Y6 => Q r4 X5 Y6)) ∧ (w1 = (-1) → vp_in p0 32 ∧ Q (X 21 p0.toNatClampNeg) X Y))
def PX0_widthAt (p0 : Int32) (X : XT) (Y : YT) (Q : Int32 → XT → YT → Prop) : Prop :=  BX0_widthAt_s Q p0 X Y
set_option maxHeartbeats 4000000 in
set_option maxRecDepth 100000 in
theorem kX0_widthAt_s {Γ : Cxt} {Q : Int32 → XT → YT → Prop} (O : Ok Γ RX0 cX0_widthAt 3 { frames := 1, cells := 0, slots := 0, locals := 22 }) (r : Ret Γ (some .int) (qI Q)) {p0 : Int32} {X : XT} {Y : YT} (h : BX0_widthAt_s Q p0 X Y) : V Γ 0 [(0, .ref 35), (1, .int p0)] [] X Y := by
  refine v_aload_n O dX0_widthAt_0 rfl 0 rfl ?_
  refine v_get O dX0_widthAt_1 fo_X0_25 sh_35 rfl rfl ?_
  refine v_get O dX0_widthAt_4 fo_X0_33 sh_13 rfl rfl ?_
  refine v_iload_n O dX0_widthAt_7 rfl 1 rfl ?_
  refine v_iald O dX0_widthAt_8 sh_18 h.1 ?_
  refine v_topi (fun w1 hw2 => ?_)
  refine v_istore_n (lv' := [(2, .int w1), (0, .ref 35), (1, .int p0)]) O dX0_widthAt_9 rfl (by decide) rfl ?_
  refine v_iload_n O dX0_widthAt_10 rfl 0 rfl ?_
  refine v_iconst O dX0_widthAt_11 kc_m1 ?_
  refine v_icmp_ne (tgt := 27) O dX0_widthAt_12 (by decide) (fun g3 => ?_) (fun g3 => ?_)
  · refine v_aload_n O dX0_widthAt_27 rfl 1 rfl ?_
    refine v_get O dX0_widthAt_28 fo_X0_21 sh_35 rfl rfl ?_
    refine v_iload_n O dX0_widthAt_31 rfl 0 rfl ?_
    refine v_aload_n O dX0_widthAt_32 rfl 1 rfl ?_
    refine v_get O dX0_widthAt_33 fo_X0_25 sh_35 rfl rfl ?_
    refine v_get O dX0_widthAt_36 fo_X0_41 sh_13 rfl rfl ?_
    refine v_aload_n O dX0_widthAt_39 rfl 1 rfl ?_
    refine v_get O dX0_widthAt_40 fo_X0_25 sh_35 rfl rfl ?_
    refine v_get O dX0_widthAt_43 fo_X0_44 sh_13 rfl rfl ?_
    refine v_iload_n O dX0_widthAt_46 rfl 2 rfl ?_
    refine v_iald O dX0_widthAt_47 sh_16 ((h.2 w1 hw2).1 g3).1 ?_
    refine v_iald O dX0_widthAt_48 sh_15 ((h.2 w1 hw2).1 g3).2.1 ?_
    refine v_callV (rm' := { frames := 0, cells := 0, slots := 0, locals := 0 }) (As := [.int w1, .int (X 15 (X 16 p0.toNatClampNeg).toNatClampNeg)]) (st := []) O dX0_widthAt_49 ci_X1_widthOf ml_X0_47 mi_X1_widthOf sh_3 rfl ⟨rfl, rfl, (by decide), (by decide)⟩ rfl (Nat.le_of_ble_eq_true rfl) rfl (mX1_widthOf ((h.2 w1 hw2).1 g3).2.2) (k_I (fun r4 X5 Y6 h7 => ?_))
    exact v_iret O r dX0_widthAt_52 ⟨_, rfl, h7⟩
  · refine v_aload_n O dX0_widthAt_15 rfl 1 rfl ?_
    refine v_get O dX0_widthAt_16 fo_X0_25 sh_35 rfl rfl ?_
    refine v_get O dX0_widthAt_19 fo_X0_38 sh_13 rfl rfl ?_
    refine v_iload_n O dX0_widthAt_22 rfl 2 rfl ?_
    refine v_iald O dX0_widthAt_23 sh_21 ((h.2 w1 hw2).2 g3).1 ?_
    refine v_goto O dX0_widthAt_24 (tgt := 52) (by decide) ?_
    exact v_iret O r dX0_widthAt_52 ⟨_, rfl, ((h.2 w1 hw2).2 g3).2⟩
set_option maxRecDepth 100000 in
theorem mX0_widthAt {Γ : Cxt} {p0 : Int32} {X : XT} {Y : YT} {Q : Int32 → XT → YT → Prop} (h : PX0_widthAt p0 X Y Q) : MT Γ yX0_widthAt (.code yX0_widthAt cX0_widthAt 3 (some .int) :: wl) { frames := 1, cells := 0, slots := 0, locals := 22 } [.ref 35, .int p0] X Y (qI Q) :=
  mt_of (by decide) (Nat.le_of_ble_eq_true rfl) (fun Γ _ O r => kX0_widthAt_s O r  (h ))
theorem dX9_within_0 : decode cX9_within 0 = .ok (.iload_n 0, 1) := by decide +kernel
theorem dX9_within_1 : decode cX9_within 1 = .ok (.iload_n 1, 1) := by decide +kernel
theorem dX9_within_2 : decode cX9_within 2 = .ok (.if_icmp .lt 12, 3) := by decide +kernel
theorem dX9_within_5 : decode cX9_within 5 = .ok (.iload_n 0, 1) := by decide +kernel
theorem dX9_within_6 : decode cX9_within 6 = .ok (.iload_n 2, 1) := by decide +kernel
theorem dX9_within_7 : decode cX9_within 7 = .ok (.if_icmp .gt 7, 3) := by decide +kernel
theorem dX9_within_10 : decode cX9_within 10 = .ok (.iconst 1, 1) := by decide +kernel
theorem dX9_within_11 : decode cX9_within 11 = .ok (.goto 4, 3) := by decide +kernel
theorem dX9_within_14 : decode cX9_within 14 = .ok (.iconst 0, 1) := by decide +kernel
theorem dX9_within_15 : decode cX9_within 15 = .ok (.ireturn, 1) := by decide +kernel
def BX9_within_s (Q : Int32 → XT → YT → Prop) (p0 : Int32) (p1 : Int32) (p2 : Int32) (X : XT) (Y : YT) : Prop :=
  ((p0 < p1 → Q 0 X Y) ∧ (¬ p0 < p1 → ((p2 < p0 → Q 0 X Y) ∧ (¬ p2 < p0 → Q 1 X Y))))
def PX9_within (p0 : Int32) (p1 : Int32) (p2 : Int32) (X : XT) (Y : YT) (Q : Int32 → XT → YT → Prop) : Prop :=  BX9_within_s Q p0 p1 p2 X Y
set_option maxHeartbeats 4000000 in
set_option maxRecDepth 100000 in
theorem kX9_within_s {Γ : Cxt} {Q : Int32 → XT → YT → Prop} (O : Ok Γ RX9 cX9_within 3 { frames := 0, cells := 0, slots := 0, locals := 0 }) (r : Ret Γ (some .boolean) (qI Q)) {p0 : Int32} {p1 : Int32} {p2 : Int32} {X : XT} {Y : YT} (h : BX9_within_s Q p0 p1 p2 X Y) : V Γ 0 [(0, .int p0), (1, .int p1), (2, .int p2)] [] X Y := by
  refine v_iload_n O dX9_within_0 rfl 0 rfl ?_
  refine v_iload_n O dX9_within_1 rfl 1 rfl ?_
  refine v_icmp_lt (tgt := 14) O dX9_within_2 (by decide) (fun g1 => ?_) (fun g1 => ?_)
  · refine v_iconst O dX9_within_14 kc_0 ?_
    exact v_zret O r dX9_within_15 (by decide) ⟨_, rfl, (h.1 g1)⟩
  · refine v_iload_n O dX9_within_5 rfl 0 rfl ?_
    refine v_iload_n O dX9_within_6 rfl 2 rfl ?_
    refine v_icmp_gt (tgt := 14) O dX9_within_7 (by decide) (fun g2 => ?_) (fun g2 => ?_)
    · refine v_iconst O dX9_within_14 kc_0 ?_
      exact v_zret O r dX9_within_15 (by decide) ⟨_, rfl, ((h.2 g1).1 g2)⟩
    · refine v_iconst O dX9_within_10 kc_1 ?_
      refine v_goto O dX9_within_11 (tgt := 15) (by decide) ?_
      exact v_zret O r dX9_within_15 (by decide) ⟨_, rfl, ((h.2 g1).2 g2)⟩
set_option maxRecDepth 100000 in
theorem mX9_within {Γ : Cxt} {p0 : Int32} {p1 : Int32} {p2 : Int32} {X : XT} {Y : YT} {Q : Int32 → XT → YT → Prop} (h : PX9_within p0 p1 p2 X Y Q) : MT Γ yX9_within (.code yX9_within cX9_within 3 (some .boolean) :: wl) { frames := 0, cells := 0, slots := 0, locals := 0 } [.int p0, .int p1, .int p2] X Y (qI Q) :=
  mt_of (by decide) (Nat.le_of_ble_eq_true rfl) (fun Γ _ O r => kX9_within_s O r  (h ))
theorem dX1_asWideAs_0 : decode cX1_asWideAs 0 = .ok (.iconst 0, 1) := by decide +kernel
theorem dX1_asWideAs_1 : decode cX1_asWideAs 1 = .ok (.istore 4, 2) := by decide +kernel
theorem dX1_asWideAs_3 : decode cX1_asWideAs 3 = .ok (.iconst 0, 1) := by decide +kernel
theorem dX1_asWideAs_4 : decode cX1_asWideAs 4 = .ok (.istore 5, 2) := by decide +kernel
theorem dX1_asWideAs_6 : decode cX1_asWideAs 6 = .ok (.iload 5, 2) := by decide +kernel
theorem dX1_asWideAs_8 : decode cX1_asWideAs 8 = .ok (.aload_n 0, 1) := by decide +kernel
theorem dX1_asWideAs_9 : decode cX1_asWideAs 9 = .ok (.getfield 39, 3) := by decide +kernel
theorem dX1_asWideAs_12 : decode cX1_asWideAs 12 = .ok (.if_icmp .ge 37, 3) := by decide +kernel
theorem dX1_asWideAs_15 : decode cX1_asWideAs 15 = .ok (.aload_n 0, 1) := by decide +kernel
theorem dX1_asWideAs_16 : decode cX1_asWideAs 16 = .ok (.iload 5, 2) := by decide +kernel
theorem dX1_asWideAs_18 : decode cX1_asWideAs 18 = .ok (.iload_n 2, 1) := by decide +kernel
theorem dX1_asWideAs_19 : decode cX1_asWideAs 19 = .ok (.invokevirtual 84, 3) := by decide +kernel
theorem dX1_asWideAs_22 : decode cX1_asWideAs 22 = .ok (.iload_n 1, 1) := by decide +kernel
theorem dX1_asWideAs_23 : decode cX1_asWideAs 23 = .ok (.iload_n 3, 1) := by decide +kernel
theorem dX1_asWideAs_24 : decode cX1_asWideAs 24 = .ok (.isub, 1) := by decide +kernel
theorem dX1_asWideAs_25 : decode cX1_asWideAs 25 = .ok (.iload_n 1, 1) := by decide +kernel
theorem dX1_asWideAs_26 : decode cX1_asWideAs 26 = .ok (.iload_n 3, 1) := by decide +kernel
theorem dX1_asWideAs_27 : decode cX1_asWideAs 27 = .ok (.iadd, 1) := by decide +kernel
theorem dX1_asWideAs_28 : decode cX1_asWideAs 28 = .ok (.invokestatic 49, 3) := by decide +kernel
theorem dX1_asWideAs_31 : decode cX1_asWideAs 31 = .ok (.ifCond .eq 12, 3) := by decide +kernel
theorem dX1_asWideAs_34 : decode cX1_asWideAs 34 = .ok (.iload 4, 2) := by decide +kernel
theorem dX1_asWideAs_36 : decode cX1_asWideAs 36 = .ok (.iconst 1, 1) := by decide +kernel
theorem dX1_asWideAs_37 : decode cX1_asWideAs 37 = .ok (.iload 5, 2) := by decide +kernel
theorem dX1_asWideAs_39 : decode cX1_asWideAs 39 = .ok (.ishl, 1) := by decide +kernel
theorem dX1_asWideAs_40 : decode cX1_asWideAs 40 = .ok (.ior, 1) := by decide +kernel
theorem dX1_asWideAs_41 : decode cX1_asWideAs 41 = .ok (.istore 4, 2) := by decide +kernel
theorem dX1_asWideAs_43 : decode cX1_asWideAs 43 = .ok (.iinc 5 1, 3) := by decide +kernel
theorem dX1_asWideAs_46 : decode cX1_asWideAs 46 = .ok (.goto (-40), 3) := by decide +kernel
theorem dX1_asWideAs_49 : decode cX1_asWideAs 49 = .ok (.iload 4, 2) := by decide +kernel
theorem dX1_asWideAs_51 : decode cX1_asWideAs 51 = .ok (.ireturn, 1) := by decide +kernel
def BX1_asWideAs_6 (I6 : Int32 → Int32 → Int32 → Int32 → Int32 → XT → YT → Prop) (Q : Int32 → XT → YT → Prop) (a1 : Int32) (a2 : Int32) (a3 : Int32) (a4 : Int32) (a5 : Int32) (X : XT) (Y : YT) : Prop :=
  (((X 3 9) ≤ a5 → Q a4 X Y) ∧ (¬ (X 3 9) ≤ a5 → PX1_widthOf a5 a2 X Y (fun r2 X3 Y4 => PX9_within r2 (a1 - a3) (a1 + a3) X3 Y4 (fun r6 X7 Y8 => ((r6 = 0 → ∀ w11 : Int32, w11 = a5 + 1 → I6 a1 a2 a3 a4 w11 X7 Y8) ∧ (¬ r6 = 0 → ∀ w13 : Int32, w13 = (a4 ||| (1 <<< (a5 &&& 31))) → ∀ w15 : Int32, w15 = a5 + 1 → I6 a1 a2 a3 w13 w15 X7 Y8))))))
def BX1_asWideAs_s (I6 : Int32 → Int32 → Int32 → Int32 → Int32 → XT → YT → Prop) (Q : Int32 → XT → YT → Prop) (p0 : Int32) (p1 : Int32) (p2 : Int32) (X : XT) (Y : YT) : Prop :=
  I6 p0 p1 p2 0 0 X Y
def PX1_asWideAs (p0 : Int32) (p1 : Int32) (p2 : Int32) (X : XT) (Y : YT) (Q : Int32 → XT → YT → Prop) : Prop := ∀ (I6 : Int32 → Int32 → Int32 → Int32 → Int32 → XT → YT → Prop), (∀ (a1 : Int32) (a2 : Int32) (a3 : Int32) (a4 : Int32) (a5 : Int32) (X : XT) (Y : YT), BX1_asWideAs_6 I6 Q a1 a2 a3 a4 a5 X Y → I6 a1 a2 a3 a4 a5 X Y) → BX1_asWideAs_s I6 Q p0 p1 p2 X Y
set_option maxHeartbeats 4000000 in
set_option maxRecDepth 100000 in
theorem kX1_asWideAs_6 {Γ : Cxt} {Q : Int32 → XT → YT → Prop} (O : Ok Γ RX1 cX1_asWideAs 6 { frames := 1, cells := 0, slots := 0, locals := 22 }) (r : Ret Γ (some .int) (qI Q)) {I6 : Int32 → Int32 → Int32 → Int32 → Int32 → XT → YT → Prop} (e6 : ∀ (a1 : Int32) (a2 : Int32) (a3 : Int32) (a4 : Int32) (a5 : Int32) (X : XT) (Y : YT), I6 a1 a2 a3 a4 a5 X Y → V Γ 6 [(0, .ref 3), (1, .int a1), (2, .int a2), (3, .int a3), (4, .int a4), (5, .int a5)] [] X Y) {a1 : Int32} {a2 : Int32} {a3 : Int32} {a4 : Int32} {a5 : Int32} {X : XT} {Y : YT} (h : BX1_asWideAs_6 I6 Q a1 a2 a3 a4 a5 X Y) : V Γ 6 [(0, .ref 3), (1, .int a1), (2, .int a2), (3, .int a3), (4, .int a4), (5, .int a5)] [] X Y := by
  refine v_iload O dX1_asWideAs_6 5 rfl ?_
  refine v_aload_n O dX1_asWideAs_8 rfl 0 rfl ?_
  refine v_get O dX1_asWideAs_9 fo_X1_39 sh_3 rfl rfl ?_
  refine v_icmp_ge (tgt := 49) O dX1_asWideAs_12 (by decide) (fun g1 => ?_) (fun g1 => ?_)
  · refine v_iload O dX1_asWideAs_49 4 rfl ?_
    exact v_iret O r dX1_asWideAs_51 ⟨_, rfl, (h.1 g1)⟩
  · refine v_aload_n O dX1_asWideAs_15 rfl 0 rfl ?_
    refine v_iload O dX1_asWideAs_16 5 rfl ?_
    refine v_iload_n O dX1_asWideAs_18 rfl 2 rfl ?_
    refine v_callV (rm' := { frames := 0, cells := 0, slots := 0, locals := 0 }) (As := [.int a5, .int a2]) (st := []) O dX1_asWideAs_19 ci_X1_widthOf ml_X1_84 mi_X1_widthOf sh_3 rfl ⟨rfl, rfl, (by decide), (by decide)⟩ rfl (Nat.le_of_ble_eq_true rfl) rfl (mX1_widthOf (h.2 g1)) (k_I (fun r2 X3 Y4 h5 => ?_))
    refine v_iload_n O dX1_asWideAs_22 rfl 1 rfl ?_
    refine v_iload_n O dX1_asWideAs_23 rfl 3 rfl ?_
    refine v_isub O dX1_asWideAs_24 ?_
    refine v_iload_n O dX1_asWideAs_25 rfl 1 rfl ?_
    refine v_iload_n O dX1_asWideAs_26 rfl 3 rfl ?_
    refine v_iadd O dX1_asWideAs_27 ?_
    refine v_callN (rm' := { frames := 0, cells := 0, slots := 0, locals := 0 }) (As := [.int r2, .int (a1 - a3), .int (a1 + a3)]) (st := []) O dX1_asWideAs_28 ci_X9_within ml_X1_49 ms_X9_within ⟨rfl, rfl, (by decide), (by decide)⟩ rfl (Nat.le_of_ble_eq_true rfl) rfl (mX9_within h5) (k_I (fun r6 X7 Y8 h9 => ?_))
    refine v_if_eq (tgt := 43) O dX1_asWideAs_31 (by decide) (fun g10 => ?_) (fun g10 => ?_)
    · obtain ⟨w11, hw12⟩ : ∃ y : Int32, y = a5 + 1 := ⟨_, rfl⟩
      refine v_iinc (v := w11) (j := 5) O dX1_asWideAs_43 rfl (by rw [hw12]; exact congrArg _ kc_1) (by decide) (lv' := [(5, .int w11), (0, .ref 3), (1, .int a1), (2, .int a2), (3, .int a3), (4, .int a4)]) rfl ?_
      refine v_goto O dX1_asWideAs_46 (tgt := 6) (by decide) ?_
      exact v_loc [1, 2, 3, 4, 5, 0] rfl (e6 a1 a2 a3 a4 w11 X7 Y8 ((h9.1 g10) w11 hw12))
    · refine v_iload O dX1_asWideAs_34 4 rfl ?_
      refine v_iconst O dX1_asWideAs_36 kc_1 ?_
      refine v_iload O dX1_asWideAs_37 5 rfl ?_
      refine v_ishl O dX1_asWideAs_39 ?_
      refine v_ior O dX1_asWideAs_40 ?_
      refine v_topi (fun w13 hw14 => ?_)
      refine v_istore (lv' := [(4, .int w13), (0, .ref 3), (1, .int a1), (2, .int a2), (3, .int a3), (5, .int a5)]) O dX1_asWideAs_41 (by decide) rfl ?_
      obtain ⟨w15, hw16⟩ : ∃ y : Int32, y = a5 + 1 := ⟨_, rfl⟩
      refine v_iinc (v := w15) (j := 5) O dX1_asWideAs_43 rfl (by rw [hw16]; exact congrArg _ kc_1) (by decide) (lv' := [(5, .int w15), (4, .int w13), (0, .ref 3), (1, .int a1), (2, .int a2), (3, .int a3)]) rfl ?_
      refine v_goto O dX1_asWideAs_46 (tgt := 6) (by decide) ?_
      exact v_loc [2, 3, 4, 5, 1, 0] rfl (e6 a1 a2 a3 w13 w15 X7 Y8 (((h9.2 g10) w13 hw14) w15 hw16))
set_option maxHeartbeats 4000000 in
set_option maxRecDepth 100000 in
theorem kX1_asWideAs_s {Γ : Cxt} {Q : Int32 → XT → YT → Prop} (O : Ok Γ RX1 cX1_asWideAs 6 { frames := 1, cells := 0, slots := 0, locals := 22 }) (r : Ret Γ (some .int) (qI Q)) {I6 : Int32 → Int32 → Int32 → Int32 → Int32 → XT → YT → Prop} (e6 : ∀ (a1 : Int32) (a2 : Int32) (a3 : Int32) (a4 : Int32) (a5 : Int32) (X : XT) (Y : YT), I6 a1 a2 a3 a4 a5 X Y → V Γ 6 [(0, .ref 3), (1, .int a1), (2, .int a2), (3, .int a3), (4, .int a4), (5, .int a5)] [] X Y) {p0 : Int32} {p1 : Int32} {p2 : Int32} {X : XT} {Y : YT} (h : BX1_asWideAs_s I6 Q p0 p1 p2 X Y) : V Γ 0 [(0, .ref 3), (1, .int p0), (2, .int p1), (3, .int p2)] [] X Y := by
  refine v_iconst O dX1_asWideAs_0 kc_0 ?_
  refine v_istore (lv' := [(4, .int 0), (0, .ref 3), (1, .int p0), (2, .int p1), (3, .int p2)]) O dX1_asWideAs_1 (by decide) rfl ?_
  refine v_iconst O dX1_asWideAs_3 kc_0 ?_
  refine v_istore (lv' := [(5, .int 0), (4, .int 0), (0, .ref 3), (1, .int p0), (2, .int p1), (3, .int p2)]) O dX1_asWideAs_4 (by decide) rfl ?_
  exact v_loc [2, 3, 4, 5, 1, 0] rfl (e6 p0 p1 p2 0 0 X Y h)
set_option maxRecDepth 100000 in
theorem mX1_asWideAs {Γ : Cxt} {p0 : Int32} {p1 : Int32} {p2 : Int32} {X : XT} {Y : YT} {Q : Int32 → XT → YT → Prop} (h : PX1_asWideAs p0 p1 p2 X Y Q) : MT Γ yX1_asWideAs (.code yX1_asWideAs cX1_asWideAs 6 (some .int) :: wl) { frames := 1, cells := 0, slots := 0, locals := 22 } [.ref 3, .int p0, .int p1, .int p2] X Y (qI Q) :=
  mt_of (by decide) (Nat.le_of_ble_eq_true rfl) (fun Γ _ O r => kX1_asWideAs_s O r (fun _ _ _ _ _ _ _ g => g) (h (fun a1 a2 a3 a4 a5 X Y => V Γ 6 [(0, .ref 3), (1, .int a1), (2, .int a2), (3, .int a3), (4, .int a4), (5, .int a5)] [] X Y) (fun _ _ _ _ _ _ _ g => kX1_asWideAs_6 O r (fun _ _ _ _ _ _ _ g => g) g)))
theorem dX9_has_0 : decode cX9_has 0 = .ok (.iload_n 0, 1) := by decide +kernel
theorem dX9_has_1 : decode cX9_has 1 = .ok (.iload_n 1, 1) := by decide +kernel
theorem dX9_has_2 : decode cX9_has 2 = .ok (.ishr, 1) := by decide +kernel
theorem dX9_has_3 : decode cX9_has 3 = .ok (.iconst 1, 1) := by decide +kernel
theorem dX9_has_4 : decode cX9_has 4 = .ok (.iand, 1) := by decide +kernel
theorem dX9_has_5 : decode cX9_has 5 = .ok (.ifCond .eq 7, 3) := by decide +kernel
theorem dX9_has_8 : decode cX9_has 8 = .ok (.iconst 1, 1) := by decide +kernel
theorem dX9_has_9 : decode cX9_has 9 = .ok (.goto 4, 3) := by decide +kernel
theorem dX9_has_12 : decode cX9_has 12 = .ok (.iconst 0, 1) := by decide +kernel
theorem dX9_has_13 : decode cX9_has 13 = .ok (.ireturn, 1) := by decide +kernel
def BX9_has_s (Q : Int32 → XT → YT → Prop) (p0 : Int32) (p1 : Int32) (X : XT) (Y : YT) : Prop :=
  ((((p0 >>> (p1 &&& 31)) &&& 1) = 0 → Q 0 X Y) ∧ (¬ ((p0 >>> (p1 &&& 31)) &&& 1) = 0 → Q 1 X Y))
def PX9_has (p0 : Int32) (p1 : Int32) (X : XT) (Y : YT) (Q : Int32 → XT → YT → Prop) : Prop :=  BX9_has_s Q p0 p1 X Y
set_option maxHeartbeats 4000000 in
set_option maxRecDepth 100000 in
theorem kX9_has_s {Γ : Cxt} {Q : Int32 → XT → YT → Prop} (O : Ok Γ RX9 cX9_has 2 { frames := 0, cells := 0, slots := 0, locals := 0 }) (r : Ret Γ (some .boolean) (qI Q)) {p0 : Int32} {p1 : Int32} {X : XT} {Y : YT} (h : BX9_has_s Q p0 p1 X Y) : V Γ 0 [(0, .int p0), (1, .int p1)] [] X Y := by
  refine v_iload_n O dX9_has_0 rfl 0 rfl ?_
  refine v_iload_n O dX9_has_1 rfl 1 rfl ?_
  refine v_ishr O dX9_has_2 ?_
  refine v_iconst O dX9_has_3 kc_1 ?_
  refine v_iand O dX9_has_4 ?_
  refine v_if_eq (tgt := 12) O dX9_has_5 (by decide) (fun g1 => ?_) (fun g1 => ?_)
  · refine v_iconst O dX9_has_12 kc_0 ?_
    exact v_zret O r dX9_has_13 (by decide) ⟨_, rfl, (h.1 g1)⟩
  · refine v_iconst O dX9_has_8 kc_1 ?_
    refine v_goto O dX9_has_9 (tgt := 13) (by decide) ?_
    exact v_zret O r dX9_has_13 (by decide) ⟨_, rfl, (h.2 g1)⟩
set_option maxRecDepth 100000 in
theorem mX9_has {Γ : Cxt} {p0 : Int32} {p1 : Int32} {X : XT} {Y : YT} {Q : Int32 → XT → YT → Prop} (h : PX9_has p0 p1 X Y Q) : MT Γ yX9_has (.code yX9_has cX9_has 2 (some .boolean) :: wl) { frames := 0, cells := 0, slots := 0, locals := 0 } [.int p0, .int p1] X Y (qI Q) :=
  mt_of (by decide) (Nat.le_of_ble_eq_true rfl) (fun Γ _ O r => kX9_has_s O r  (h ))
theorem dX1_servingOn_0 : decode cX1_servingOn 0 = .ok (.iconst 0, 1) := by decide +kernel
theorem dX1_servingOn_1 : decode cX1_servingOn 1 = .ok (.istore_n 3, 1) := by decide +kernel
theorem dX1_servingOn_2 : decode cX1_servingOn 2 = .ok (.iconst 0, 1) := by decide +kernel
theorem dX1_servingOn_3 : decode cX1_servingOn 3 = .ok (.istore 4, 2) := by decide +kernel
theorem dX1_servingOn_5 : decode cX1_servingOn 5 = .ok (.iload 4, 2) := by decide +kernel
theorem dX1_servingOn_7 : decode cX1_servingOn 7 = .ok (.aload_n 0, 1) := by decide +kernel
theorem dX1_servingOn_8 : decode cX1_servingOn 8 = .ok (.getfield 39, 3) := by decide +kernel
theorem dX1_servingOn_11 : decode cX1_servingOn 11 = .ok (.if_icmp .ge 51, 3) := by decide +kernel
theorem dX1_servingOn_14 : decode cX1_servingOn 14 = .ok (.aload_n 0, 1) := by decide +kernel
theorem dX1_servingOn_15 : decode cX1_servingOn 15 = .ok (.getfield 24, 3) := by decide +kernel
theorem dX1_servingOn_18 : decode cX1_servingOn 18 = .ok (.iload 4, 2) := by decide +kernel
theorem dX1_servingOn_20 : decode cX1_servingOn 20 = .ok (.iaload, 1) := by decide +kernel
theorem dX1_servingOn_21 : decode cX1_servingOn 21 = .ok (.iload_n 1, 1) := by decide +kernel
theorem dX1_servingOn_22 : decode cX1_servingOn 22 = .ok (.invokestatic 75, 3) := by decide +kernel
theorem dX1_servingOn_25 : decode cX1_servingOn 25 = .ok (.ifCond .eq 31, 3) := by decide +kernel
theorem dX1_servingOn_28 : decode cX1_servingOn 28 = .ok (.iload_n 2, 1) := by decide +kernel
theorem dX1_servingOn_29 : decode cX1_servingOn 29 = .ok (.aload_n 0, 1) := by decide +kernel
theorem dX1_servingOn_30 : decode cX1_servingOn 30 = .ok (.getfield 27, 3) := by decide +kernel
theorem dX1_servingOn_33 : decode cX1_servingOn 33 = .ok (.iload 4, 2) := by decide +kernel
theorem dX1_servingOn_35 : decode cX1_servingOn 35 = .ok (.iaload, 1) := by decide +kernel
theorem dX1_servingOn_36 : decode cX1_servingOn 36 = .ok (.aload_n 0, 1) := by decide +kernel
theorem dX1_servingOn_37 : decode cX1_servingOn 37 = .ok (.getfield 30, 3) := by decide +kernel
theorem dX1_servingOn_40 : decode cX1_servingOn 40 = .ok (.iload 4, 2) := by decide +kernel
theorem dX1_servingOn_42 : decode cX1_servingOn 42 = .ok (.iaload, 1) := by decide +kernel
theorem dX1_servingOn_43 : decode cX1_servingOn 43 = .ok (.invokestatic 49, 3) := by decide +kernel
theorem dX1_servingOn_46 : decode cX1_servingOn 46 = .ok (.ifCond .eq 10, 3) := by decide +kernel
theorem dX1_servingOn_49 : decode cX1_servingOn 49 = .ok (.iload_n 3, 1) := by decide +kernel
theorem dX1_servingOn_50 : decode cX1_servingOn 50 = .ok (.iconst 1, 1) := by decide +kernel
theorem dX1_servingOn_51 : decode cX1_servingOn 51 = .ok (.iload 4, 2) := by decide +kernel
theorem dX1_servingOn_53 : decode cX1_servingOn 53 = .ok (.ishl, 1) := by decide +kernel
theorem dX1_servingOn_54 : decode cX1_servingOn 54 = .ok (.ior, 1) := by decide +kernel
theorem dX1_servingOn_55 : decode cX1_servingOn 55 = .ok (.istore_n 3, 1) := by decide +kernel
theorem dX1_servingOn_56 : decode cX1_servingOn 56 = .ok (.iinc 4 1, 3) := by decide +kernel
theorem dX1_servingOn_59 : decode cX1_servingOn 59 = .ok (.goto (-54), 3) := by decide +kernel
theorem dX1_servingOn_62 : decode cX1_servingOn 62 = .ok (.iload_n 3, 1) := by decide +kernel
theorem dX1_servingOn_63 : decode cX1_servingOn 63 = .ok (.ireturn, 1) := by decide +kernel
def BX1_servingOn_5 (I5 : Int32 → Int32 → Int32 → Int32 → XT → YT → Prop) (Q : Int32 → XT → YT → Prop) (a1 : Int32) (a2 : Int32) (a3 : Int32) (a4 : Int32) (X : XT) (Y : YT) : Prop :=
  (((X 3 9) ≤ a4 → Q a3 X Y) ∧ (¬ (X 3 9) ≤ a4 → vp_in a4 10 ∧ PX9_has (X 8 a4.toNatClampNeg) a1 X Y (fun r2 X3 Y4 => ((r2 = 0 → ∀ w7 : Int32, w7 = a4 + 1 → I5 a1 a2 a3 w7 X3 Y4) ∧ (¬ r2 = 0 → vp_in a4 10 ∧ vp_in a4 10 ∧ PX9_within a2 (X3 9 a4.toNatClampNeg) (X3 10 a4.toNatClampNeg) X3 Y4 (fun r9 X10 Y11 => ((r9 = 0 → ∀ w14 : Int32, w14 = a4 + 1 → I5 a1 a2 a3 w14 X10 Y11) ∧ (¬ r9 = 0 → ∀ w16 : Int32, w16 = (a3 ||| (1 <<< (a4 &&& 31))) → ∀ w18 : Int32, w18 = a4 + 1 → I5 a1 a2 w16 w18 X10 Y11))))))))
def BX1_servingOn_s (I5 : Int32 → Int32 → Int32 → Int32 → XT → YT → Prop) (Q : Int32 → XT → YT → Prop) (p0 : Int32) (p1 : Int32) (X : XT) (Y : YT) : Prop :=
  I5 p0 p1 0 0 X Y
def PX1_servingOn (p0 : Int32) (p1 : Int32) (X : XT) (Y : YT) (Q : Int32 → XT → YT → Prop) : Prop := ∀ (I5 : Int32 → Int32 → Int32 → Int32 → XT → YT → Prop), (∀ (a1 : Int32) (a2 : Int32) (a3 : Int32) (a4 : Int32) (X : XT) (Y : YT), BX1_servingOn_5 I5 Q a1 a2 a3 a4 X Y → I5 a1 a2 a3 a4 X Y) → BX1_servingOn_s I5 Q p0 p1 X Y
set_option maxHeartbeats 4000000 in
set_option maxRecDepth 100000 in
theorem kX1_servingOn_5 {Γ : Cxt} {Q : Int32 → XT → YT → Prop} (O : Ok Γ RX1 cX1_servingOn 5 { frames := 1, cells := 0, slots := 0, locals := 22 }) (r : Ret Γ (some .int) (qI Q)) {I5 : Int32 → Int32 → Int32 → Int32 → XT → YT → Prop} (e5 : ∀ (a1 : Int32) (a2 : Int32) (a3 : Int32) (a4 : Int32) (X : XT) (Y : YT), I5 a1 a2 a3 a4 X Y → V Γ 5 [(0, .ref 3), (1, .int a1), (2, .int a2), (3, .int a3), (4, .int a4)] [] X Y) {a1 : Int32} {a2 : Int32} {a3 : Int32} {a4 : Int32} {X : XT} {Y : YT} (h : BX1_servingOn_5 I5 Q a1 a2 a3 a4 X Y) : V Γ 5 [(0, .ref 3), (1, .int a1), (2, .int a2), (3, .int a3), (4, .int a4)] [] X Y := by
  refine v_iload O dX1_servingOn_5 4 rfl ?_
  refine v_aload_n O dX1_servingOn_7 rfl 0 rfl ?_
  refine v_get O dX1_servingOn_8 fo_X1_39 sh_3 rfl rfl ?_
  refine v_icmp_ge (tgt := 62) O dX1_servingOn_11 (by decide) (fun g1 => ?_) (fun g1 => ?_)
  · refine v_iload_n O dX1_servingOn_62 rfl 3 rfl ?_
    exact v_iret O r dX1_servingOn_63 ⟨_, rfl, (h.1 g1)⟩
  · refine v_aload_n O dX1_servingOn_14 rfl 0 rfl ?_
    refine v_get O dX1_servingOn_15 fo_X1_24 sh_3 rfl rfl ?_
    refine v_iload O dX1_servingOn_18 4 rfl ?_
    refine v_iald O dX1_servingOn_20 sh_8 (h.2 g1).1 ?_
    refine v_iload_n O dX1_servingOn_21 rfl 1 rfl ?_
    refine v_callN (rm' := { frames := 0, cells := 0, slots := 0, locals := 0 }) (As := [.int (X 8 a4.toNatClampNeg), .int a1]) (st := []) O dX1_servingOn_22 ci_X9_has ml_X1_75 ms_X9_has ⟨rfl, rfl, (by decide), (by decide)⟩ rfl (Nat.le_of_ble_eq_true rfl) rfl (mX9_has (h.2 g1).2) (k_I (fun r2 X3 Y4 h5 => ?_))
    refine v_if_eq (tgt := 56) O dX1_servingOn_25 (by decide) (fun g6 => ?_) (fun g6 => ?_)
    · obtain ⟨w7, hw8⟩ : ∃ y : Int32, y = a4 + 1 := ⟨_, rfl⟩
      refine v_iinc (v := w7) (j := 4) O dX1_servingOn_56 rfl (by rw [hw8]; exact congrArg _ kc_1) (by decide) (lv' := [(4, .int w7), (0, .ref 3), (1, .int a1), (2, .int a2), (3, .int a3)]) rfl ?_
      refine v_goto O dX1_servingOn_59 (tgt := 5) (by decide) ?_
      exact v_loc [1, 2, 3, 4, 0] rfl (e5 a1 a2 a3 w7 X3 Y4 ((h5.1 g6) w7 hw8))
    · refine v_iload_n O dX1_servingOn_28 rfl 2 rfl ?_
      refine v_aload_n O dX1_servingOn_29 rfl 0 rfl ?_
      refine v_get O dX1_servingOn_30 fo_X1_27 sh_3 rfl rfl ?_
      refine v_iload O dX1_servingOn_33 4 rfl ?_
      refine v_iald O dX1_servingOn_35 sh_9 (h5.2 g6).1 ?_
      refine v_aload_n O dX1_servingOn_36 rfl 0 rfl ?_
      refine v_get O dX1_servingOn_37 fo_X1_30 sh_3 rfl rfl ?_
      refine v_iload O dX1_servingOn_40 4 rfl ?_
      refine v_iald O dX1_servingOn_42 sh_10 (h5.2 g6).2.1 ?_
      refine v_callN (rm' := { frames := 0, cells := 0, slots := 0, locals := 0 }) (As := [.int a2, .int (X3 9 a4.toNatClampNeg), .int (X3 10 a4.toNatClampNeg)]) (st := []) O dX1_servingOn_43 ci_X9_within ml_X1_49 ms_X9_within ⟨rfl, rfl, (by decide), (by decide)⟩ rfl (Nat.le_of_ble_eq_true rfl) rfl (mX9_within (h5.2 g6).2.2) (k_I (fun r9 X10 Y11 h12 => ?_))
      refine v_if_eq (tgt := 56) O dX1_servingOn_46 (by decide) (fun g13 => ?_) (fun g13 => ?_)
      · obtain ⟨w14, hw15⟩ : ∃ y : Int32, y = a4 + 1 := ⟨_, rfl⟩
        refine v_iinc (v := w14) (j := 4) O dX1_servingOn_56 rfl (by rw [hw15]; exact congrArg _ kc_1) (by decide) (lv' := [(4, .int w14), (0, .ref 3), (1, .int a1), (2, .int a2), (3, .int a3)]) rfl ?_
        refine v_goto O dX1_servingOn_59 (tgt := 5) (by decide) ?_
        exact v_loc [1, 2, 3, 4, 0] rfl (e5 a1 a2 a3 w14 X10 Y11 ((h12.1 g13) w14 hw15))
      · refine v_iload_n O dX1_servingOn_49 rfl 3 rfl ?_
        refine v_iconst O dX1_servingOn_50 kc_1 ?_
        refine v_iload O dX1_servingOn_51 4 rfl ?_
        refine v_ishl O dX1_servingOn_53 ?_
        refine v_ior O dX1_servingOn_54 ?_
        refine v_topi (fun w16 hw17 => ?_)
        refine v_istore_n (lv' := [(3, .int w16), (0, .ref 3), (1, .int a1), (2, .int a2), (4, .int a4)]) O dX1_servingOn_55 rfl (by decide) rfl ?_
        obtain ⟨w18, hw19⟩ : ∃ y : Int32, y = a4 + 1 := ⟨_, rfl⟩
        refine v_iinc (v := w18) (j := 4) O dX1_servingOn_56 rfl (by rw [hw19]; exact congrArg _ kc_1) (by decide) (lv' := [(4, .int w18), (3, .int w16), (0, .ref 3), (1, .int a1), (2, .int a2)]) rfl ?_
        refine v_goto O dX1_servingOn_59 (tgt := 5) (by decide) ?_
        exact v_loc [2, 3, 4, 1, 0] rfl (e5 a1 a2 w16 w18 X10 Y11 (((h12.2 g13) w16 hw17) w18 hw19))
set_option maxHeartbeats 4000000 in
set_option maxRecDepth 100000 in
theorem kX1_servingOn_s {Γ : Cxt} {Q : Int32 → XT → YT → Prop} (O : Ok Γ RX1 cX1_servingOn 5 { frames := 1, cells := 0, slots := 0, locals := 22 }) (r : Ret Γ (some .int) (qI Q)) {I5 : Int32 → Int32 → Int32 → Int32 → XT → YT → Prop} (e5 : ∀ (a1 : Int32) (a2 : Int32) (a3 : Int32) (a4 : Int32) (X : XT) (Y : YT), I5 a1 a2 a3 a4 X Y → V Γ 5 [(0, .ref 3), (1, .int a1), (2, .int a2), (3, .int a3), (4, .int a4)] [] X Y) {p0 : Int32} {p1 : Int32} {X : XT} {Y : YT} (h : BX1_servingOn_s I5 Q p0 p1 X Y) : V Γ 0 [(0, .ref 3), (1, .int p0), (2, .int p1)] [] X Y := by
  refine v_iconst O dX1_servingOn_0 kc_0 ?_
  refine v_istore_n (lv' := [(3, .int 0), (0, .ref 3), (1, .int p0), (2, .int p1)]) O dX1_servingOn_1 rfl (by decide) rfl ?_
  refine v_iconst O dX1_servingOn_2 kc_0 ?_
  refine v_istore (lv' := [(4, .int 0), (3, .int 0), (0, .ref 3), (1, .int p0), (2, .int p1)]) O dX1_servingOn_3 (by decide) rfl ?_
  exact v_loc [2, 3, 4, 1, 0] rfl (e5 p0 p1 0 0 X Y h)
set_option maxRecDepth 100000 in
theorem mX1_servingOn {Γ : Cxt} {p0 : Int32} {p1 : Int32} {X : XT} {Y : YT} {Q : Int32 → XT → YT → Prop} (h : PX1_servingOn p0 p1 X Y Q) : MT Γ yX1_servingOn (.code yX1_servingOn cX1_servingOn 5 (some .int) :: wl) { frames := 1, cells := 0, slots := 0, locals := 22 } [.ref 3, .int p0, .int p1] X Y (qI Q) :=
  mt_of (by decide) (Nat.le_of_ble_eq_true rfl) (fun Γ _ O r => kX1_servingOn_s O r (fun _ _ _ _ _ _ g => g) (h (fun a1 a2 a3 a4 X Y => V Γ 5 [(0, .ref 3), (1, .int a1), (2, .int a2), (3, .int a3), (4, .int a4)] [] X Y) (fun _ _ _ _ _ _ g => kX1_servingOn_5 O r (fun _ _ _ _ _ _ g => g) g)))
theorem dX0_fittingAt_0 : decode cX0_fittingAt 0 = .ok (.aload_n 0, 1) := by decide +kernel
theorem dX0_fittingAt_1 : decode cX0_fittingAt 1 = .ok (.getfield 25, 3) := by decide +kernel
theorem dX0_fittingAt_4 : decode cX0_fittingAt 4 = .ok (.getfield 44, 3) := by decide +kernel
theorem dX0_fittingAt_7 : decode cX0_fittingAt 7 = .ok (.iload_n 1, 1) := by decide +kernel
theorem dX0_fittingAt_8 : decode cX0_fittingAt 8 = .ok (.iaload, 1) := by decide +kernel
theorem dX0_fittingAt_9 : decode cX0_fittingAt 9 = .ok (.istore_n 3, 1) := by decide +kernel
theorem dX0_fittingAt_10 : decode cX0_fittingAt 10 = .ok (.aload_n 0, 1) := by decide +kernel
theorem dX0_fittingAt_11 : decode cX0_fittingAt 11 = .ok (.getfield 21, 3) := by decide +kernel
theorem dX0_fittingAt_14 : decode cX0_fittingAt 14 = .ok (.aload_n 0, 1) := by decide +kernel
theorem dX0_fittingAt_15 : decode cX0_fittingAt 15 = .ok (.iload_n 1, 1) := by decide +kernel
theorem dX0_fittingAt_16 : decode cX0_fittingAt 16 = .ok (.invokevirtual 53, 3) := by decide +kernel
theorem dX0_fittingAt_19 : decode cX0_fittingAt 19 = .ok (.aload_n 0, 1) := by decide +kernel
theorem dX0_fittingAt_20 : decode cX0_fittingAt 20 = .ok (.getfield 25, 3) := by decide +kernel
theorem dX0_fittingAt_23 : decode cX0_fittingAt 23 = .ok (.getfield 41, 3) := by decide +kernel
theorem dX0_fittingAt_26 : decode cX0_fittingAt 26 = .ok (.iload_n 3, 1) := by decide +kernel
theorem dX0_fittingAt_27 : decode cX0_fittingAt 27 = .ok (.iaload, 1) := by decide +kernel
theorem dX0_fittingAt_28 : decode cX0_fittingAt 28 = .ok (.iload_n 2, 1) := by decide +kernel
theorem dX0_fittingAt_29 : decode cX0_fittingAt 29 = .ok (.invokevirtual 57, 3) := by decide +kernel
theorem dX0_fittingAt_32 : decode cX0_fittingAt 32 = .ok (.aload_n 0, 1) := by decide +kernel
theorem dX0_fittingAt_33 : decode cX0_fittingAt 33 = .ok (.getfield 21, 3) := by decide +kernel
theorem dX0_fittingAt_36 : decode cX0_fittingAt 36 = .ok (.aload_n 0, 1) := by decide +kernel
theorem dX0_fittingAt_37 : decode cX0_fittingAt 37 = .ok (.getfield 25, 3) := by decide +kernel
theorem dX0_fittingAt_40 : decode cX0_fittingAt 40 = .ok (.getfield 61, 3) := by decide +kernel
theorem dX0_fittingAt_43 : decode cX0_fittingAt 43 = .ok (.iload_n 1, 1) := by decide +kernel
theorem dX0_fittingAt_44 : decode cX0_fittingAt 44 = .ok (.iaload, 1) := by decide +kernel
theorem dX0_fittingAt_45 : decode cX0_fittingAt 45 = .ok (.aload_n 0, 1) := by decide +kernel
theorem dX0_fittingAt_46 : decode cX0_fittingAt 46 = .ok (.getfield 25, 3) := by decide +kernel
theorem dX0_fittingAt_49 : decode cX0_fittingAt 49 = .ok (.getfield 64, 3) := by decide +kernel
theorem dX0_fittingAt_52 : decode cX0_fittingAt 52 = .ok (.iload_n 3, 1) := by decide +kernel
theorem dX0_fittingAt_53 : decode cX0_fittingAt 53 = .ok (.iaload, 1) := by decide +kernel
theorem dX0_fittingAt_54 : decode cX0_fittingAt 54 = .ok (.invokevirtual 67, 3) := by decide +kernel
theorem dX0_fittingAt_57 : decode cX0_fittingAt 57 = .ok (.iand, 1) := by decide +kernel
theorem dX0_fittingAt_58 : decode cX0_fittingAt 58 = .ok (.ireturn, 1) := by decide +kernel
def BX0_fittingAt_s (Q : Int32 → XT → YT → Prop) (p0 : Int32) (p1 : Int32) (X : XT) (Y : YT) : Prop :=
  vp_in p0 32 ∧ ∀ w1 : Int32, w1 = (X 16 p0.toNatClampNeg) → PX0_widthAt p0 X Y (fun r3 X4 Y5 => vp_in w1 8 ∧ PX1_asWideAs r3 (X4 15 w1.toNatClampNeg) p1 X4 Y5 (fun r7 X8 Y9 => vp_in p0 32 ∧ vp_in w1 8 ∧ PX1_servingOn (X8 17 p0.toNatClampNeg) (X8 14 w1.toNatClampNeg) X8 Y9 (fun r11 X12 Y13 => Q (r7 &&& r11) X12 Y13)))
def PX0_fittingAt (p0 : Int32) (p1 : Int32) (X : XT) (Y : YT) (Q : Int32 → XT → YT → Prop) : Prop :=  BX0_fittingAt_s Q p0 p1 X Y
set_option maxHeartbeats 4000000 in
set_option maxRecDepth 100000 in
theorem kX0_fittingAt_s {Γ : Cxt} {Q : Int32 → XT → YT → Prop} (O : Ok Γ RX0 cX0_fittingAt 4 { frames := 2, cells := 0, slots := 0, locals := 47 }) (r : Ret Γ (some .int) (qI Q)) {p0 : Int32} {p1 : Int32} {X : XT} {Y : YT} (h : BX0_fittingAt_s Q p0 p1 X Y) : V Γ 0 [(0, .ref 35), (1, .int p0), (2, .int p1)] [] X Y := by
  refine v_aload_n O dX0_fittingAt_0 rfl 0 rfl ?_
  refine v_get O dX0_fittingAt_1 fo_X0_25 sh_35 rfl rfl ?_
  refine v_get O dX0_fittingAt_4 fo_X0_44 sh_13 rfl rfl ?_
  refine v_iload_n O dX0_fittingAt_7 rfl 1 rfl ?_
  refine v_iald O dX0_fittingAt_8 sh_16 h.1 ?_
  refine v_topi (fun w1 hw2 => ?_)
  refine v_istore_n (lv' := [(3, .int w1), (0, .ref 35), (1, .int p0), (2, .int p1)]) O dX0_fittingAt_9 rfl (by decide) rfl ?_
  refine v_aload_n O dX0_fittingAt_10 rfl 1 rfl ?_
  refine v_get O dX0_fittingAt_11 fo_X0_21 sh_35 rfl rfl ?_
  refine v_aload_n O dX0_fittingAt_14 rfl 1 rfl ?_
  refine v_iload_n O dX0_fittingAt_15 rfl 2 rfl ?_
  refine v_callV (rm' := { frames := 1, cells := 0, slots := 0, locals := 22 }) (As := [.int p0]) (st := [.ref 3]) O dX0_fittingAt_16 ci_X0_widthAt ml_X0_53 mi_X0_widthAt sh_35 rfl ⟨rfl, rfl, (by decide), (by decide)⟩ rfl (Nat.le_of_ble_eq_true rfl) rfl (mX0_widthAt (h.2 w1 hw2)) (k_I (fun r3 X4 Y5 h6 => ?_))
  refine v_aload_n O dX0_fittingAt_19 rfl 1 rfl ?_
  refine v_get O dX0_fittingAt_20 fo_X0_25 sh_35 rfl rfl ?_
  refine v_get O dX0_fittingAt_23 fo_X0_41 sh_13 rfl rfl ?_
  refine v_iload_n O dX0_fittingAt_26 rfl 0 rfl ?_
  refine v_iald O dX0_fittingAt_27 sh_15 h6.1 ?_
  refine v_iload_n O dX0_fittingAt_28 rfl 3 rfl ?_
  refine v_callV (rm' := { frames := 1, cells := 0, slots := 0, locals := 22 }) (As := [.int r3, .int (X4 15 w1.toNatClampNeg), .int p1]) (st := []) O dX0_fittingAt_29 ci_X1_asWideAs ml_X0_57 mi_X1_asWideAs sh_3 rfl ⟨rfl, rfl, (by decide), (by decide)⟩ rfl (Nat.le_of_ble_eq_true rfl) rfl (mX1_asWideAs h6.2) (k_I (fun r7 X8 Y9 h10 => ?_))
  refine v_aload_n O dX0_fittingAt_32 rfl 1 rfl ?_
  refine v_get O dX0_fittingAt_33 fo_X0_21 sh_35 rfl rfl ?_
  refine v_aload_n O dX0_fittingAt_36 rfl 1 rfl ?_
  refine v_get O dX0_fittingAt_37 fo_X0_25 sh_35 rfl rfl ?_
  refine v_get O dX0_fittingAt_40 fo_X0_61 sh_13 rfl rfl ?_
  refine v_iload_n O dX0_fittingAt_43 rfl 2 rfl ?_
  refine v_iald O dX0_fittingAt_44 sh_17 h10.1 ?_
  refine v_aload_n O dX0_fittingAt_45 rfl 1 rfl ?_
  refine v_get O dX0_fittingAt_46 fo_X0_25 sh_35 rfl rfl ?_
  refine v_get O dX0_fittingAt_49 fo_X0_64 sh_13 rfl rfl ?_
  refine v_iload_n O dX0_fittingAt_52 rfl 0 rfl ?_
  refine v_iald O dX0_fittingAt_53 sh_14 h10.2.1 ?_
  refine v_callV (rm' := { frames := 1, cells := 0, slots := 0, locals := 22 }) (As := [.int (X8 17 p0.toNatClampNeg), .int (X8 14 w1.toNatClampNeg)]) (st := [.int r7]) O dX0_fittingAt_54 ci_X1_servingOn ml_X0_67 mi_X1_servingOn sh_3 rfl ⟨rfl, rfl, (by decide), (by decide)⟩ rfl (Nat.le_of_ble_eq_true rfl) rfl (mX1_servingOn h10.2.2) (k_I (fun r11 X12 Y13 h14 => ?_))
  refine v_iand O dX0_fittingAt_57 ?_
  exact v_iret O r dX0_fittingAt_58 ⟨_, rfl, h14⟩
set_option maxRecDepth 100000 in
theorem mX0_fittingAt {Γ : Cxt} {p0 : Int32} {p1 : Int32} {X : XT} {Y : YT} {Q : Int32 → XT → YT → Prop} (h : PX0_fittingAt p0 p1 X Y Q) : MT Γ yX0_fittingAt (.code yX0_fittingAt cX0_fittingAt 4 (some .int) :: wl) { frames := 2, cells := 0, slots := 0, locals := 47 } [.ref 35, .int p0, .int p1] X Y (qI Q) :=
  mt_of (by decide) (Nat.le_of_ble_eq_true rfl) (fun Γ _ O r => kX0_fittingAt_s O r  (h ))
theorem dX0_measure_0 : decode cX0_measure 0 = .ok (.iconst 0, 1) := by decide +kernel
theorem dX0_measure_1 : decode cX0_measure 1 = .ok (.istore_n 2, 1) := by decide +kernel
theorem dX0_measure_2 : decode cX0_measure 2 = .ok (.iload_n 2, 1) := by decide +kernel
theorem dX0_measure_3 : decode cX0_measure 3 = .ok (.aload_n 0, 1) := by decide +kernel
theorem dX0_measure_4 : decode cX0_measure 4 = .ok (.getfield 25, 3) := by decide +kernel
theorem dX0_measure_7 : decode cX0_measure 7 = .ok (.getfield 70, 3) := by decide +kernel
theorem dX0_measure_10 : decode cX0_measure 10 = .ok (.if_icmp .ge 21, 3) := by decide +kernel
theorem dX0_measure_13 : decode cX0_measure 13 = .ok (.aload_n 0, 1) := by decide +kernel
theorem dX0_measure_14 : decode cX0_measure 14 = .ok (.getfield 9, 3) := by decide +kernel
theorem dX0_measure_17 : decode cX0_measure 17 = .ok (.iload_n 2, 1) := by decide +kernel
theorem dX0_measure_18 : decode cX0_measure 18 = .ok (.aload_n 0, 1) := by decide +kernel
theorem dX0_measure_19 : decode cX0_measure 19 = .ok (.iload_n 2, 1) := by decide +kernel
theorem dX0_measure_20 : decode cX0_measure 20 = .ok (.iload_n 1, 1) := by decide +kernel
theorem dX0_measure_21 : decode cX0_measure 21 = .ok (.invokevirtual 74, 3) := by decide +kernel
theorem dX0_measure_24 : decode cX0_measure 24 = .ok (.iastore, 1) := by decide +kernel
theorem dX0_measure_25 : decode cX0_measure 25 = .ok (.iinc 2 1, 3) := by decide +kernel
theorem dX0_measure_28 : decode cX0_measure 28 = .ok (.goto (-26), 3) := by decide +kernel
theorem dX0_measure_31 : decode cX0_measure 31 = .ok (.return_, 1) := by decide +kernel
def BX0_measure_2 (I2 : Int32 → Int32 → XT → YT → Prop) (Q : XT → YT → Prop) (a1 : Int32) (a2 : Int32) (X : XT) (Y : YT) : Prop :=
  (((X 13 11) ≤ a2 → Q X Y) ∧ (¬ (X 13 11) ≤ a2 → PX0_fittingAt a2 a1 X Y (fun r2 X3 Y4 => vp_in a2 32 ∧ ∀ w6 : Int32, w6 = a2 + 1 → I2 a1 w6 (sX X3 36 a2.toNatClampNeg r2) Y4)))
def BX0_measure_s (I2 : Int32 → Int32 → XT → YT → Prop) (Q : XT → YT → Prop) (p0 : Int32) (X : XT) (Y : YT) : Prop :=
  I2 p0 0 X Y
def PX0_measure (p0 : Int32) (X : XT) (Y : YT) (Q : XT → YT → Prop) : Prop := ∀ (I2 : Int32 → Int32 → XT → YT → Prop), (∀ (a1 : Int32) (a2 : Int32) (X : XT) (Y : YT), BX0_measure_2 I2 Q a1 a2 X Y → I2 a1 a2 X Y) → BX0_measure_s I2 Q p0 X Y
set_option maxHeartbeats 4000000 in
set_option maxRecDepth 100000 in
theorem kX0_measure_2 {Γ : Cxt} {Q : XT → YT → Prop} (O : Ok Γ RX0 cX0_measure 3 { frames := 3, cells := 0, slots := 0, locals := 70 }) (r : Ret Γ none (qV Q)) {I2 : Int32 → Int32 → XT → YT → Prop} (e2 : ∀ (a1 : Int32) (a2 : Int32) (X : XT) (Y : YT), I2 a1 a2 X Y → V Γ 2 [(0, .ref 35), (1, .int a1), (2, .int a2)] [] X Y) {a1 : Int32} {a2 : Int32} {X : XT} {Y : YT} (h : BX0_measure_2 I2 Q a1 a2 X Y) : V Γ 2 [(0, .ref 35), (1, .int a1), (2, .int a2)] [] X Y := by
  refine v_iload_n O dX0_measure_2 rfl 2 rfl ?_
  refine v_aload_n O dX0_measure_3 rfl 0 rfl ?_
  refine v_get O dX0_measure_4 fo_X0_25 sh_35 rfl rfl ?_
  refine v_get O dX0_measure_7 fo_X0_70 sh_13 rfl rfl ?_
  refine v_icmp_ge (tgt := 31) O dX0_measure_10 (by decide) (fun g1 => ?_) (fun g1 => ?_)
  · exact v_vret O r dX0_measure_31 ⟨rfl, (h.1 g1)⟩
  · refine v_aload_n O dX0_measure_13 rfl 0 rfl ?_
    refine v_get O dX0_measure_14 fo_X0_9 sh_35 rfl rfl ?_
    refine v_iload_n O dX0_measure_17 rfl 2 rfl ?_
    refine v_aload_n O dX0_measure_18 rfl 0 rfl ?_
    refine v_iload_n O dX0_measure_19 rfl 2 rfl ?_
    refine v_iload_n O dX0_measure_20 rfl 1 rfl ?_
    refine v_callV (rm' := { frames := 2, cells := 0, slots := 0, locals := 47 }) (As := [.int a2, .int a1]) (st := [.int a2, .ref 36]) O dX0_measure_21 ci_X0_fittingAt ml_X0_74 mi_X0_fittingAt sh_35 rfl ⟨rfl, rfl, (by decide), (by decide)⟩ rfl (Nat.le_of_ble_eq_true rfl) rfl (mX0_fittingAt (h.2 g1)) (k_I (fun r2 X3 Y4 h5 => ?_))
    refine v_iast O dX0_measure_24 sh_36 h5.1 ?_
    obtain ⟨w6, hw7⟩ : ∃ y : Int32, y = a2 + 1 := ⟨_, rfl⟩
    refine v_iinc (v := w6) (j := 2) O dX0_measure_25 rfl (by rw [hw7]; exact congrArg _ kc_1) (by decide) (lv' := [(2, .int w6), (0, .ref 35), (1, .int a1)]) rfl ?_
    refine v_goto O dX0_measure_28 (tgt := 2) (by decide) ?_
    exact v_loc [1, 2, 0] rfl (e2 a1 w6 (sX X3 36 a2.toNatClampNeg r2) Y4 (h5.2 w6 hw7))
set_option maxHeartbeats 4000000 in
set_option maxRecDepth 100000 in
theorem kX0_measure_s {Γ : Cxt} {Q : XT → YT → Prop} (O : Ok Γ RX0 cX0_measure 3 { frames := 3, cells := 0, slots := 0, locals := 70 }) (r : Ret Γ none (qV Q)) {I2 : Int32 → Int32 → XT → YT → Prop} (e2 : ∀ (a1 : Int32) (a2 : Int32) (X : XT) (Y : YT), I2 a1 a2 X Y → V Γ 2 [(0, .ref 35), (1, .int a1), (2, .int a2)] [] X Y) {p0 : Int32} {X : XT} {Y : YT} (h : BX0_measure_s I2 Q p0 X Y) : V Γ 0 [(0, .ref 35), (1, .int p0)] [] X Y := by
  refine v_iconst O dX0_measure_0 kc_0 ?_
  refine v_istore_n (lv' := [(2, .int 0), (0, .ref 35), (1, .int p0)]) O dX0_measure_1 rfl (by decide) rfl ?_
  exact v_loc [1, 2, 0] rfl (e2 p0 0 X Y h)
set_option maxRecDepth 100000 in
theorem mX0_measure {Γ : Cxt} {p0 : Int32} {X : XT} {Y : YT} {Q : XT → YT → Prop} (h : PX0_measure p0 X Y Q) : MT Γ yX0_measure (.code yX0_measure cX0_measure 3 none :: wl) { frames := 3, cells := 0, slots := 0, locals := 70 } [.ref 35, .int p0] X Y (qV Q) :=
  mt_of (by decide) (Nat.le_of_ble_eq_true rfl) (fun Γ _ O r => kX0_measure_s O r (fun _ _ _ _ g => g) (h (fun a1 a2 X Y => V Γ 2 [(0, .ref 35), (1, .int a1), (2, .int a2)] [] X Y) (fun _ _ _ _ g => kX0_measure_2 O r (fun _ _ _ _ g => g) g)))
theorem dX3_isShown_0 : decode cX3_isShown 0 = .ok (.aload_n 0, 1) := by decide +kernel
theorem dX3_isShown_1 : decode cX3_isShown 1 = .ok (.getfield 27, 3) := by decide +kernel
theorem dX3_isShown_4 : decode cX3_isShown 4 = .ok (.iload_n 1, 1) := by decide +kernel
theorem dX3_isShown_5 : decode cX3_isShown 5 = .ok (.iaload, 1) := by decide +kernel
theorem dX3_isShown_6 : decode cX3_isShown 6 = .ok (.istore_n 3, 1) := by decide +kernel
theorem dX3_isShown_7 : decode cX3_isShown 7 = .ok (.iload_n 3, 1) := by decide +kernel
theorem dX3_isShown_8 : decode cX3_isShown 8 = .ok (.iconst (-1), 1) := by decide +kernel
theorem dX3_isShown_9 : decode cX3_isShown 9 = .ok (.if_icmp .eq 21, 3) := by decide +kernel
theorem dX3_isShown_12 : decode cX3_isShown 12 = .ok (.iload_n 3, 1) := by decide +kernel
theorem dX3_isShown_13 : decode cX3_isShown 13 = .ok (.bipush 8, 2) := by decide +kernel
theorem dX3_isShown_15 : decode cX3_isShown 15 = .ok (.if_icmp .ge 11, 3) := by decide +kernel
theorem dX3_isShown_18 : decode cX3_isShown 18 = .ok (.iload_n 2, 1) := by decide +kernel
theorem dX3_isShown_19 : decode cX3_isShown 19 = .ok (.iload_n 3, 1) := by decide +kernel
theorem dX3_isShown_20 : decode cX3_isShown 20 = .ok (.invokestatic 84, 3) := by decide +kernel
theorem dX3_isShown_23 : decode cX3_isShown 23 = .ok (.ifCond .ne 7, 3) := by decide +kernel
theorem dX3_isShown_26 : decode cX3_isShown 26 = .ok (.iconst 1, 1) := by decide +kernel
theorem dX3_isShown_27 : decode cX3_isShown 27 = .ok (.goto 4, 3) := by decide +kernel
theorem dX3_isShown_30 : decode cX3_isShown 30 = .ok (.iconst 0, 1) := by decide +kernel
theorem dX3_isShown_31 : decode cX3_isShown 31 = .ok (.ireturn, 1) := by decide +kernel
def BX3_isShown_s (Q : Int32 → XT → YT → Prop) (p0 : Int32) (p1 : Int32) (X : XT) (Y : YT) : Prop :=
  vp_in p0 32 ∧ ∀ w1 : Int32, w1 = (X 19 p0.toNatClampNeg) → ((w1 = (-1) → Q 0 X Y) ∧ (¬ w1 = (-1) → ((8 ≤ w1 → Q 1 X Y) ∧ (¬ 8 ≤ w1 → PX9_has p1 w1 X Y (fun r5 X6 Y7 => ((¬ r5 = 0 → Q 0 X6 Y7) ∧ (r5 = 0 → Q 1 X6 Y7)))))))
def PX3_isShown (p0 : Int32) (p1 : Int32) (X : XT) (Y : YT) (Q : Int32 → XT → YT → Prop) : Prop :=  BX3_isShown_s Q p0 p1 X Y
set_option maxHeartbeats 4000000 in
set_option maxRecDepth 100000 in
theorem kX3_isShown_s {Γ : Cxt} {Q : Int32 → XT → YT → Prop} (O : Ok Γ RX3 cX3_isShown 4 { frames := 1, cells := 0, slots := 0, locals := 21 }) (r : Ret Γ (some .boolean) (qI Q)) {p0 : Int32} {p1 : Int32} {X : XT} {Y : YT} (h : BX3_isShown_s Q p0 p1 X Y) : V Γ 0 [(0, .ref 13), (1, .int p0), (2, .int p1)] [] X Y := by
  refine v_aload_n O dX3_isShown_0 rfl 0 rfl ?_
  refine v_get O dX3_isShown_1 fo_X3_27 sh_13 rfl rfl ?_
  refine v_iload_n O dX3_isShown_4 rfl 1 rfl ?_
  refine v_iald O dX3_isShown_5 sh_19 h.1 ?_
  refine v_topi (fun w1 hw2 => ?_)
  refine v_istore_n (lv' := [(3, .int w1), (0, .ref 13), (1, .int p0), (2, .int p1)]) O dX3_isShown_6 rfl (by decide) rfl ?_
  refine v_iload_n O dX3_isShown_7 rfl 0 rfl ?_
  refine v_iconst O dX3_isShown_8 kc_m1 ?_
  refine v_icmp_eq (tgt := 30) O dX3_isShown_9 (by decide) (fun g3 => ?_) (fun g3 => ?_)
  · refine v_iconst O dX3_isShown_30 kc_0 ?_
    exact v_zret O r dX3_isShown_31 (by decide) ⟨_, rfl, ((h.2 w1 hw2).1 g3)⟩
  · refine v_iload_n O dX3_isShown_12 rfl 0 rfl ?_
    refine v_bipush O dX3_isShown_13 kb_8 ?_
    refine v_icmp_ge (tgt := 26) O dX3_isShown_15 (by decide) (fun g4 => ?_) (fun g4 => ?_)
    · refine v_iconst O dX3_isShown_26 kc_1 ?_
      refine v_goto O dX3_isShown_27 (tgt := 31) (by decide) ?_
      exact v_zret O r dX3_isShown_31 (by decide) ⟨_, rfl, (((h.2 w1 hw2).2 g3).1 g4)⟩
    · refine v_iload_n O dX3_isShown_18 rfl 3 rfl ?_
      refine v_iload_n O dX3_isShown_19 rfl 0 rfl ?_
      refine v_callN (rm' := { frames := 0, cells := 0, slots := 0, locals := 0 }) (As := [.int p1, .int w1]) (st := []) O dX3_isShown_20 ci_X9_has ml_X3_84 ms_X9_has ⟨rfl, rfl, (by decide), (by decide)⟩ rfl (Nat.le_of_ble_eq_true rfl) rfl (mX9_has (((h.2 w1 hw2).2 g3).2 g4)) (k_I (fun r5 X6 Y7 h8 => ?_))
      refine v_if_ne (tgt := 30) O dX3_isShown_23 (by decide) (fun g9 => ?_) (fun g9 => ?_)
      · refine v_iconst O dX3_isShown_30 kc_0 ?_
        exact v_zret O r dX3_isShown_31 (by decide) ⟨_, rfl, (h8.1 g9)⟩
      · refine v_iconst O dX3_isShown_26 kc_1 ?_
        refine v_goto O dX3_isShown_27 (tgt := 31) (by decide) ?_
        exact v_zret O r dX3_isShown_31 (by decide) ⟨_, rfl, (h8.2 g9)⟩
set_option maxRecDepth 100000 in
theorem mX3_isShown {Γ : Cxt} {p0 : Int32} {p1 : Int32} {X : XT} {Y : YT} {Q : Int32 → XT → YT → Prop} (h : PX3_isShown p0 p1 X Y Q) : MT Γ yX3_isShown (.code yX3_isShown cX3_isShown 4 (some .boolean) :: wl) { frames := 1, cells := 0, slots := 0, locals := 21 } [.ref 13, .int p0, .int p1] X Y (qI Q) :=
  mt_of (by decide) (Nat.le_of_ble_eq_true rfl) (fun Γ _ O r => kX3_isShown_s O r  (h ))
theorem dX0_shownOn_0 : decode cX0_shownOn 0 = .ok (.iconst 0, 1) := by decide +kernel
theorem dX0_shownOn_1 : decode cX0_shownOn 1 = .ok (.istore_n 3, 1) := by decide +kernel
theorem dX0_shownOn_2 : decode cX0_shownOn 2 = .ok (.iconst 0, 1) := by decide +kernel
theorem dX0_shownOn_3 : decode cX0_shownOn 3 = .ok (.istore 4, 2) := by decide +kernel
theorem dX0_shownOn_5 : decode cX0_shownOn 5 = .ok (.iload 4, 2) := by decide +kernel
theorem dX0_shownOn_7 : decode cX0_shownOn 7 = .ok (.aload_n 0, 1) := by decide +kernel
theorem dX0_shownOn_8 : decode cX0_shownOn 8 = .ok (.getfield 25, 3) := by decide +kernel
theorem dX0_shownOn_11 : decode cX0_shownOn 11 = .ok (.getfield 70, 3) := by decide +kernel
theorem dX0_shownOn_14 : decode cX0_shownOn 14 = .ok (.if_icmp .ge 54, 3) := by decide +kernel
theorem dX0_shownOn_17 : decode cX0_shownOn 17 = .ok (.iload_n 1, 1) := by decide +kernel
theorem dX0_shownOn_18 : decode cX0_shownOn 18 = .ok (.aload_n 0, 1) := by decide +kernel
theorem dX0_shownOn_19 : decode cX0_shownOn 19 = .ok (.getfield 25, 3) := by decide +kernel
theorem dX0_shownOn_22 : decode cX0_shownOn 22 = .ok (.getfield 44, 3) := by decide +kernel
theorem dX0_shownOn_25 : decode cX0_shownOn 25 = .ok (.iload 4, 2) := by decide +kernel
theorem dX0_shownOn_27 : decode cX0_shownOn 27 = .ok (.iaload, 1) := by decide +kernel
theorem dX0_shownOn_28 : decode cX0_shownOn 28 = .ok (.invokestatic 77, 3) := by decide +kernel
theorem dX0_shownOn_31 : decode cX0_shownOn 31 = .ok (.ifCond .eq 31, 3) := by decide +kernel
theorem dX0_shownOn_34 : decode cX0_shownOn 34 = .ok (.aload_n 0, 1) := by decide +kernel
theorem dX0_shownOn_35 : decode cX0_shownOn 35 = .ok (.getfield 25, 3) := by decide +kernel
theorem dX0_shownOn_38 : decode cX0_shownOn 38 = .ok (.iload 4, 2) := by decide +kernel
theorem dX0_shownOn_40 : decode cX0_shownOn 40 = .ok (.iload_n 2, 1) := by decide +kernel
theorem dX0_shownOn_41 : decode cX0_shownOn 41 = .ok (.invokevirtual 81, 3) := by decide +kernel
theorem dX0_shownOn_44 : decode cX0_shownOn 44 = .ok (.ifCond .eq 18, 3) := by decide +kernel
theorem dX0_shownOn_47 : decode cX0_shownOn 47 = .ok (.iload_n 3, 1) := by decide +kernel
theorem dX0_shownOn_48 : decode cX0_shownOn 48 = .ok (.iconst 1, 1) := by decide +kernel
theorem dX0_shownOn_49 : decode cX0_shownOn 49 = .ok (.aload_n 0, 1) := by decide +kernel
theorem dX0_shownOn_50 : decode cX0_shownOn 50 = .ok (.getfield 25, 3) := by decide +kernel
theorem dX0_shownOn_53 : decode cX0_shownOn 53 = .ok (.getfield 33, 3) := by decide +kernel
theorem dX0_shownOn_56 : decode cX0_shownOn 56 = .ok (.iload 4, 2) := by decide +kernel
theorem dX0_shownOn_58 : decode cX0_shownOn 58 = .ok (.iaload, 1) := by decide +kernel
theorem dX0_shownOn_59 : decode cX0_shownOn 59 = .ok (.ishl, 1) := by decide +kernel
theorem dX0_shownOn_60 : decode cX0_shownOn 60 = .ok (.ior, 1) := by decide +kernel
theorem dX0_shownOn_61 : decode cX0_shownOn 61 = .ok (.istore_n 3, 1) := by decide +kernel
theorem dX0_shownOn_62 : decode cX0_shownOn 62 = .ok (.iinc 4 1, 3) := by decide +kernel
theorem dX0_shownOn_65 : decode cX0_shownOn 65 = .ok (.goto (-60), 3) := by decide +kernel
theorem dX0_shownOn_68 : decode cX0_shownOn 68 = .ok (.iload_n 3, 1) := by decide +kernel
theorem dX0_shownOn_69 : decode cX0_shownOn 69 = .ok (.ireturn, 1) := by decide +kernel
def BX0_shownOn_5 (I5 : Int32 → Int32 → Int32 → Int32 → XT → YT → Prop) (Q : Int32 → XT → YT → Prop) (a1 : Int32) (a2 : Int32) (a3 : Int32) (a4 : Int32) (X : XT) (Y : YT) : Prop :=
  (((X 13 11) ≤ a4 → Q a3 X Y) ∧ (¬ (X 13 11) ≤ a4 → vp_in a4 32 ∧ PX9_has a1 (X 16 a4.toNatClampNeg) X Y (fun r2 X3 Y4 => ((r2 = 0 → ∀ w7 : Int32, w7 = a4 + 1 → I5 a1 a2 a3 w7 X3 Y4) ∧ (¬ r2 = 0 → PX3_isShown a4 a2 X3 Y4 (fun r9 X10 Y11 => ((r9 = 0 → ∀ w14 : Int32, w14 = a4 + 1 → I5 a1 a2 a3 w14 X10 Y11) ∧ (¬ r9 = 0 → vp_in a4 32 ∧ ∀ w16 : Int32, w16 = (a3 ||| (1 <<< ((X10 18 a4.toNatClampNeg) &&& 31))) → ∀ w18 : Int32, w18 = a4 + 1 → I5 a1 a2 w16 w18 X10 Y11))))))))
def BX0_shownOn_s (I5 : Int32 → Int32 → Int32 → Int32 → XT → YT → Prop) (Q : Int32 → XT → YT → Prop) (p0 : Int32) (p1 : Int32) (X : XT) (Y : YT) : Prop :=
  I5 p0 p1 0 0 X Y
def PX0_shownOn (p0 : Int32) (p1 : Int32) (X : XT) (Y : YT) (Q : Int32 → XT → YT → Prop) : Prop := ∀ (I5 : Int32 → Int32 → Int32 → Int32 → XT → YT → Prop), (∀ (a1 : Int32) (a2 : Int32) (a3 : Int32) (a4 : Int32) (X : XT) (Y : YT), BX0_shownOn_5 I5 Q a1 a2 a3 a4 X Y → I5 a1 a2 a3 a4 X Y) → BX0_shownOn_s I5 Q p0 p1 X Y
set_option maxHeartbeats 4000000 in
set_option maxRecDepth 100000 in
theorem kX0_shownOn_5 {Γ : Cxt} {Q : Int32 → XT → YT → Prop} (O : Ok Γ RX0 cX0_shownOn 5 { frames := 2, cells := 0, slots := 0, locals := 44 }) (r : Ret Γ (some .int) (qI Q)) {I5 : Int32 → Int32 → Int32 → Int32 → XT → YT → Prop} (e5 : ∀ (a1 : Int32) (a2 : Int32) (a3 : Int32) (a4 : Int32) (X : XT) (Y : YT), I5 a1 a2 a3 a4 X Y → V Γ 5 [(0, .ref 35), (1, .int a1), (2, .int a2), (3, .int a3), (4, .int a4)] [] X Y) {a1 : Int32} {a2 : Int32} {a3 : Int32} {a4 : Int32} {X : XT} {Y : YT} (h : BX0_shownOn_5 I5 Q a1 a2 a3 a4 X Y) : V Γ 5 [(0, .ref 35), (1, .int a1), (2, .int a2), (3, .int a3), (4, .int a4)] [] X Y := by
  refine v_iload O dX0_shownOn_5 4 rfl ?_
  refine v_aload_n O dX0_shownOn_7 rfl 0 rfl ?_
  refine v_get O dX0_shownOn_8 fo_X0_25 sh_35 rfl rfl ?_
  refine v_get O dX0_shownOn_11 fo_X0_70 sh_13 rfl rfl ?_
  refine v_icmp_ge (tgt := 68) O dX0_shownOn_14 (by decide) (fun g1 => ?_) (fun g1 => ?_)
  · refine v_iload_n O dX0_shownOn_68 rfl 3 rfl ?_
    exact v_iret O r dX0_shownOn_69 ⟨_, rfl, (h.1 g1)⟩
  · refine v_iload_n O dX0_shownOn_17 rfl 1 rfl ?_
    refine v_aload_n O dX0_shownOn_18 rfl 0 rfl ?_
    refine v_get O dX0_shownOn_19 fo_X0_25 sh_35 rfl rfl ?_
    refine v_get O dX0_shownOn_22 fo_X0_44 sh_13 rfl rfl ?_
    refine v_iload O dX0_shownOn_25 4 rfl ?_
    refine v_iald O dX0_shownOn_27 sh_16 (h.2 g1).1 ?_
    refine v_callN (rm' := { frames := 0, cells := 0, slots := 0, locals := 0 }) (As := [.int a1, .int (X 16 a4.toNatClampNeg)]) (st := []) O dX0_shownOn_28 ci_X9_has ml_X0_77 ms_X9_has ⟨rfl, rfl, (by decide), (by decide)⟩ rfl (Nat.le_of_ble_eq_true rfl) rfl (mX9_has (h.2 g1).2) (k_I (fun r2 X3 Y4 h5 => ?_))
    refine v_if_eq (tgt := 62) O dX0_shownOn_31 (by decide) (fun g6 => ?_) (fun g6 => ?_)
    · obtain ⟨w7, hw8⟩ : ∃ y : Int32, y = a4 + 1 := ⟨_, rfl⟩
      refine v_iinc (v := w7) (j := 4) O dX0_shownOn_62 rfl (by rw [hw8]; exact congrArg _ kc_1) (by decide) (lv' := [(4, .int w7), (0, .ref 35), (1, .int a1), (2, .int a2), (3, .int a3)]) rfl ?_
      refine v_goto O dX0_shownOn_65 (tgt := 5) (by decide) ?_
      exact v_loc [1, 2, 3, 4, 0] rfl (e5 a1 a2 a3 w7 X3 Y4 ((h5.1 g6) w7 hw8))
    · refine v_aload_n O dX0_shownOn_34 rfl 0 rfl ?_
      refine v_get O dX0_shownOn_35 fo_X0_25 sh_35 rfl rfl ?_
      refine v_iload O dX0_shownOn_38 4 rfl ?_
      refine v_iload_n O dX0_shownOn_40 rfl 2 rfl ?_
      refine v_callV (rm' := { frames := 1, cells := 0, slots := 0, locals := 21 }) (As := [.int a4, .int a2]) (st := []) O dX0_shownOn_41 ci_X3_isShown ml_X0_81 mi_X3_isShown sh_13 rfl ⟨rfl, rfl, (by decide), (by decide)⟩ rfl (Nat.le_of_ble_eq_true rfl) rfl (mX3_isShown (h5.2 g6)) (k_I (fun r9 X10 Y11 h12 => ?_))
      refine v_if_eq (tgt := 62) O dX0_shownOn_44 (by decide) (fun g13 => ?_) (fun g13 => ?_)
      · obtain ⟨w14, hw15⟩ : ∃ y : Int32, y = a4 + 1 := ⟨_, rfl⟩
        refine v_iinc (v := w14) (j := 4) O dX0_shownOn_62 rfl (by rw [hw15]; exact congrArg _ kc_1) (by decide) (lv' := [(4, .int w14), (0, .ref 35), (1, .int a1), (2, .int a2), (3, .int a3)]) rfl ?_
        refine v_goto O dX0_shownOn_65 (tgt := 5) (by decide) ?_
        exact v_loc [1, 2, 3, 4, 0] rfl (e5 a1 a2 a3 w14 X10 Y11 ((h12.1 g13) w14 hw15))
      · refine v_iload_n O dX0_shownOn_47 rfl 3 rfl ?_
        refine v_iconst O dX0_shownOn_48 kc_1 ?_
        refine v_aload_n O dX0_shownOn_49 rfl 0 rfl ?_
        refine v_get O dX0_shownOn_50 fo_X0_25 sh_35 rfl rfl ?_
        refine v_get O dX0_shownOn_53 fo_X0_33 sh_13 rfl rfl ?_
        refine v_iload O dX0_shownOn_56 4 rfl ?_
        refine v_iald O dX0_shownOn_58 sh_18 (h12.2 g13).1 ?_
        refine v_ishl O dX0_shownOn_59 ?_
        refine v_ior O dX0_shownOn_60 ?_
        refine v_topi (fun w16 hw17 => ?_)
        refine v_istore_n (lv' := [(3, .int w16), (0, .ref 35), (1, .int a1), (2, .int a2), (4, .int a4)]) O dX0_shownOn_61 rfl (by decide) rfl ?_
        obtain ⟨w18, hw19⟩ : ∃ y : Int32, y = a4 + 1 := ⟨_, rfl⟩
        refine v_iinc (v := w18) (j := 4) O dX0_shownOn_62 rfl (by rw [hw19]; exact congrArg _ kc_1) (by decide) (lv' := [(4, .int w18), (3, .int w16), (0, .ref 35), (1, .int a1), (2, .int a2)]) rfl ?_
        refine v_goto O dX0_shownOn_65 (tgt := 5) (by decide) ?_
        exact v_loc [2, 3, 4, 1, 0] rfl (e5 a1 a2 w16 w18 X10 Y11 (((h12.2 g13).2 w16 hw17) w18 hw19))
set_option maxHeartbeats 4000000 in
set_option maxRecDepth 100000 in
theorem kX0_shownOn_s {Γ : Cxt} {Q : Int32 → XT → YT → Prop} (O : Ok Γ RX0 cX0_shownOn 5 { frames := 2, cells := 0, slots := 0, locals := 44 }) (r : Ret Γ (some .int) (qI Q)) {I5 : Int32 → Int32 → Int32 → Int32 → XT → YT → Prop} (e5 : ∀ (a1 : Int32) (a2 : Int32) (a3 : Int32) (a4 : Int32) (X : XT) (Y : YT), I5 a1 a2 a3 a4 X Y → V Γ 5 [(0, .ref 35), (1, .int a1), (2, .int a2), (3, .int a3), (4, .int a4)] [] X Y) {p0 : Int32} {p1 : Int32} {X : XT} {Y : YT} (h : BX0_shownOn_s I5 Q p0 p1 X Y) : V Γ 0 [(0, .ref 35), (1, .int p0), (2, .int p1)] [] X Y := by
  refine v_iconst O dX0_shownOn_0 kc_0 ?_
  refine v_istore_n (lv' := [(3, .int 0), (0, .ref 35), (1, .int p0), (2, .int p1)]) O dX0_shownOn_1 rfl (by decide) rfl ?_
  refine v_iconst O dX0_shownOn_2 kc_0 ?_
  refine v_istore (lv' := [(4, .int 0), (3, .int 0), (0, .ref 35), (1, .int p0), (2, .int p1)]) O dX0_shownOn_3 (by decide) rfl ?_
  exact v_loc [2, 3, 4, 1, 0] rfl (e5 p0 p1 0 0 X Y h)
set_option maxRecDepth 100000 in
theorem mX0_shownOn {Γ : Cxt} {p0 : Int32} {p1 : Int32} {X : XT} {Y : YT} {Q : Int32 → XT → YT → Prop} (h : PX0_shownOn p0 p1 X Y Q) : MT Γ yX0_shownOn (.code yX0_shownOn cX0_shownOn 5 (some .int) :: wl) { frames := 2, cells := 0, slots := 0, locals := 44 } [.ref 35, .int p0, .int p1] X Y (qI Q) :=
  mt_of (by decide) (Nat.le_of_ble_eq_true rfl) (fun Γ _ O r => kX0_shownOn_s O r (fun _ _ _ _ _ _ g => g) (h (fun a1 a2 a3 a4 X Y => V Γ 5 [(0, .ref 35), (1, .int a1), (2, .int a2), (3, .int a3), (4, .int a4)] [] X Y) (fun _ _ _ _ _ _ g => kX0_shownOn_5 O r (fun _ _ _ _ _ _ g => g) g)))
theorem dX0_isLaid_0 : decode cX0_isLaid 0 = .ok (.iload_n 2, 1) := by decide +kernel
theorem dX0_isLaid_1 : decode cX0_isLaid 1 = .ok (.aload_n 0, 1) := by decide +kernel
theorem dX0_isLaid_2 : decode cX0_isLaid 2 = .ok (.getfield 25, 3) := by decide +kernel
theorem dX0_isLaid_5 : decode cX0_isLaid 5 = .ok (.getfield 44, 3) := by decide +kernel
theorem dX0_isLaid_8 : decode cX0_isLaid 8 = .ok (.aload_n 0, 1) := by decide +kernel
theorem dX0_isLaid_9 : decode cX0_isLaid 9 = .ok (.getfield 25, 3) := by decide +kernel
theorem dX0_isLaid_12 : decode cX0_isLaid 12 = .ok (.getfield 127, 3) := by decide +kernel
theorem dX0_isLaid_15 : decode cX0_isLaid 15 = .ok (.iload_n 1, 1) := by decide +kernel
theorem dX0_isLaid_16 : decode cX0_isLaid 16 = .ok (.iaload, 1) := by decide +kernel
theorem dX0_isLaid_17 : decode cX0_isLaid 17 = .ok (.iaload, 1) := by decide +kernel
theorem dX0_isLaid_18 : decode cX0_isLaid 18 = .ok (.invokestatic 77, 3) := by decide +kernel
theorem dX0_isLaid_21 : decode cX0_isLaid 21 = .ok (.ireturn, 1) := by decide +kernel
def BX0_isLaid_s (Q : Int32 → XT → YT → Prop) (p0 : Int32) (p1 : Int32) (X : XT) (Y : YT) : Prop :=
  vp_in p0 10 ∧ vp_in (X 22 p0.toNatClampNeg) 32 ∧ PX9_has p1 (X 16 (X 22 p0.toNatClampNeg).toNatClampNeg) X Y (fun r1 X2 Y3 => narrow .boolean (.int r1) = .int r1 ∧ Q r1 X2 Y3)
def PX0_isLaid (p0 : Int32) (p1 : Int32) (X : XT) (Y : YT) (Q : Int32 → XT → YT → Prop) : Prop :=  BX0_isLaid_s Q p0 p1 X Y
set_option maxHeartbeats 4000000 in
set_option maxRecDepth 100000 in
theorem kX0_isLaid_s {Γ : Cxt} {Q : Int32 → XT → YT → Prop} (O : Ok Γ RX0 cX0_isLaid 3 { frames := 1, cells := 0, slots := 0, locals := 21 }) (r : Ret Γ (some .boolean) (qI Q)) {p0 : Int32} {p1 : Int32} {X : XT} {Y : YT} (h : BX0_isLaid_s Q p0 p1 X Y) : V Γ 0 [(0, .ref 35), (1, .int p0), (2, .int p1)] [] X Y := by
  refine v_iload_n O dX0_isLaid_0 rfl 2 rfl ?_
  refine v_aload_n O dX0_isLaid_1 rfl 0 rfl ?_
  refine v_get O dX0_isLaid_2 fo_X0_25 sh_35 rfl rfl ?_
  refine v_get O dX0_isLaid_5 fo_X0_44 sh_13 rfl rfl ?_
  refine v_aload_n O dX0_isLaid_8 rfl 0 rfl ?_
  refine v_get O dX0_isLaid_9 fo_X0_25 sh_35 rfl rfl ?_
  refine v_get O dX0_isLaid_12 fo_X0_127 sh_13 rfl rfl ?_
  refine v_iload_n O dX0_isLaid_15 rfl 1 rfl ?_
  refine v_iald O dX0_isLaid_16 sh_22 h.1 ?_
  refine v_iald O dX0_isLaid_17 sh_16 h.2.1 ?_
  refine v_callN (rm' := { frames := 0, cells := 0, slots := 0, locals := 0 }) (As := [.int p1, .int (X 16 (X 22 p0.toNatClampNeg).toNatClampNeg)]) (st := []) O dX0_isLaid_18 ci_X9_has ml_X0_77 ms_X9_has ⟨rfl, rfl, (by decide), (by decide)⟩ rfl (Nat.le_of_ble_eq_true rfl) rfl (mX9_has h.2.2) (k_I (fun r1 X2 Y3 h4 => ?_))
  exact v_zret O r dX0_isLaid_21 h4.1 ⟨_, rfl, h4.2⟩
set_option maxRecDepth 100000 in
theorem mX0_isLaid {Γ : Cxt} {p0 : Int32} {p1 : Int32} {X : XT} {Y : YT} {Q : Int32 → XT → YT → Prop} (h : PX0_isLaid p0 p1 X Y Q) : MT Γ yX0_isLaid (.code yX0_isLaid cX0_isLaid 3 (some .boolean) :: wl) { frames := 1, cells := 0, slots := 0, locals := 21 } [.ref 35, .int p0, .int p1] X Y (qI Q) :=
  mt_of (by decide) (Nat.le_of_ble_eq_true rfl) (fun Γ _ O r => kX0_isLaid_s O r  (h ))
theorem dX0_layTwins_0 : decode cX0_layTwins 0 = .ok (.iconst 0, 1) := by decide +kernel
theorem dX0_layTwins_1 : decode cX0_layTwins 1 = .ok (.istore_n 2, 1) := by decide +kernel
theorem dX0_layTwins_2 : decode cX0_layTwins 2 = .ok (.iload_n 2, 1) := by decide +kernel
theorem dX0_layTwins_3 : decode cX0_layTwins 3 = .ok (.aload_n 0, 1) := by decide +kernel
theorem dX0_layTwins_4 : decode cX0_layTwins 4 = .ok (.getfield 25, 3) := by decide +kernel
theorem dX0_layTwins_7 : decode cX0_layTwins 7 = .ok (.getfield 115, 3) := by decide +kernel
theorem dX0_layTwins_10 : decode cX0_layTwins 10 = .ok (.if_icmp .ge 81, 3) := by decide +kernel
theorem dX0_layTwins_13 : decode cX0_layTwins 13 = .ok (.iconst 0, 1) := by decide +kernel
theorem dX0_layTwins_14 : decode cX0_layTwins 14 = .ok (.istore_n 3, 1) := by decide +kernel
theorem dX0_layTwins_15 : decode cX0_layTwins 15 = .ok (.iload_n 3, 1) := by decide +kernel
theorem dX0_layTwins_16 : decode cX0_layTwins 16 = .ok (.iload_n 2, 1) := by decide +kernel
theorem dX0_layTwins_17 : decode cX0_layTwins 17 = .ok (.if_icmp .ge 68, 3) := by decide +kernel
theorem dX0_layTwins_20 : decode cX0_layTwins 20 = .ok (.aload_n 0, 1) := by decide +kernel
theorem dX0_layTwins_21 : decode cX0_layTwins 21 = .ok (.getfield 25, 3) := by decide +kernel
theorem dX0_layTwins_24 : decode cX0_layTwins 24 = .ok (.getfield 118, 3) := by decide +kernel
theorem dX0_layTwins_27 : decode cX0_layTwins 27 = .ok (.iload_n 2, 1) := by decide +kernel
theorem dX0_layTwins_28 : decode cX0_layTwins 28 = .ok (.iaload, 1) := by decide +kernel
theorem dX0_layTwins_29 : decode cX0_layTwins 29 = .ok (.iload_n 3, 1) := by decide +kernel
theorem dX0_layTwins_30 : decode cX0_layTwins 30 = .ok (.invokestatic 77, 3) := by decide +kernel
theorem dX0_layTwins_33 : decode cX0_layTwins 33 = .ok (.ifCond .eq 46, 3) := by decide +kernel
theorem dX0_layTwins_36 : decode cX0_layTwins 36 = .ok (.aload_n 0, 1) := by decide +kernel
theorem dX0_layTwins_37 : decode cX0_layTwins 37 = .ok (.iload_n 2, 1) := by decide +kernel
theorem dX0_layTwins_38 : decode cX0_layTwins 38 = .ok (.iload_n 1, 1) := by decide +kernel
theorem dX0_layTwins_39 : decode cX0_layTwins 39 = .ok (.invokevirtual 121, 3) := by decide +kernel
theorem dX0_layTwins_42 : decode cX0_layTwins 42 = .ok (.ifCond .eq 37, 3) := by decide +kernel
theorem dX0_layTwins_45 : decode cX0_layTwins 45 = .ok (.aload_n 0, 1) := by decide +kernel
theorem dX0_layTwins_46 : decode cX0_layTwins 46 = .ok (.iload_n 3, 1) := by decide +kernel
theorem dX0_layTwins_47 : decode cX0_layTwins 47 = .ok (.iload_n 1, 1) := by decide +kernel
theorem dX0_layTwins_48 : decode cX0_layTwins 48 = .ok (.invokevirtual 121, 3) := by decide +kernel
theorem dX0_layTwins_51 : decode cX0_layTwins 51 = .ok (.ifCond .eq 28, 3) := by decide +kernel
theorem dX0_layTwins_54 : decode cX0_layTwins 54 = .ok (.aload_n 0, 1) := by decide +kernel
theorem dX0_layTwins_55 : decode cX0_layTwins 55 = .ok (.getfield 29, 3) := by decide +kernel
theorem dX0_layTwins_58 : decode cX0_layTwins 58 = .ok (.getfield 124, 3) := by decide +kernel
theorem dX0_layTwins_61 : decode cX0_layTwins 61 = .ok (.aload_n 0, 1) := by decide +kernel
theorem dX0_layTwins_62 : decode cX0_layTwins 62 = .ok (.getfield 18, 3) := by decide +kernel
theorem dX0_layTwins_65 : decode cX0_layTwins 65 = .ok (.iload_n 2, 1) := by decide +kernel
theorem dX0_layTwins_66 : decode cX0_layTwins 66 = .ok (.iaload, 1) := by decide +kernel
theorem dX0_layTwins_67 : decode cX0_layTwins 67 = .ok (.dup2, 1) := by decide +kernel
theorem dX0_layTwins_68 : decode cX0_layTwins 68 = .ok (.iaload, 1) := by decide +kernel
theorem dX0_layTwins_69 : decode cX0_layTwins 69 = .ok (.iconst 1, 1) := by decide +kernel
theorem dX0_layTwins_70 : decode cX0_layTwins 70 = .ok (.aload_n 0, 1) := by decide +kernel
theorem dX0_layTwins_71 : decode cX0_layTwins 71 = .ok (.getfield 18, 3) := by decide +kernel
theorem dX0_layTwins_74 : decode cX0_layTwins 74 = .ok (.iload_n 3, 1) := by decide +kernel
theorem dX0_layTwins_75 : decode cX0_layTwins 75 = .ok (.iaload, 1) := by decide +kernel
theorem dX0_layTwins_76 : decode cX0_layTwins 76 = .ok (.ishl, 1) := by decide +kernel
theorem dX0_layTwins_77 : decode cX0_layTwins 77 = .ok (.ior, 1) := by decide +kernel
theorem dX0_layTwins_78 : decode cX0_layTwins 78 = .ok (.iastore, 1) := by decide +kernel
theorem dX0_layTwins_79 : decode cX0_layTwins 79 = .ok (.iinc 3 1, 3) := by decide +kernel
theorem dX0_layTwins_82 : decode cX0_layTwins 82 = .ok (.goto (-67), 3) := by decide +kernel
theorem dX0_layTwins_85 : decode cX0_layTwins 85 = .ok (.iinc 2 1, 3) := by decide +kernel
theorem dX0_layTwins_88 : decode cX0_layTwins 88 = .ok (.goto (-86), 3) := by decide +kernel
theorem dX0_layTwins_91 : decode cX0_layTwins 91 = .ok (.return_, 1) := by decide +kernel
def BX0_layTwins_2 (I2 : Int32 → Int32 → XT → YT → Prop) (I15 : Int32 → Int32 → Int32 → XT → YT → Prop) (Q : XT → YT → Prop) (a1 : Int32) (a2 : Int32) (X : XT) (Y : YT) : Prop :=
  (((X 13 13) ≤ a2 → Q X Y) ∧ (¬ (X 13 13) ≤ a2 → I15 a1 a2 0 X Y))
def BX0_layTwins_15 (I2 : Int32 → Int32 → XT → YT → Prop) (I15 : Int32 → Int32 → Int32 → XT → YT → Prop) (Q : XT → YT → Prop) (a1 : Int32) (a2 : Int32) (a3 : Int32) (X : XT) (Y : YT) : Prop :=
  ((a2 ≤ a3 → ∀ w2 : Int32, w2 = a2 + 1 → I2 a1 w2 X Y) ∧ (¬ a2 ≤ a3 → vp_in a2 10 ∧ PX9_has (X 23 a2.toNatClampNeg) a3 X Y (fun r4 X5 Y6 => ((r4 = 0 → ∀ w9 : Int32, w9 = a3 + 1 → I15 a1 a2 w9 X5 Y6) ∧ (¬ r4 = 0 → PX0_isLaid a2 a1 X5 Y6 (fun r11 X12 Y13 => ((r11 = 0 → ∀ w16 : Int32, w16 = a3 + 1 → I15 a1 a2 w16 X12 Y13) ∧ (¬ r11 = 0 → PX0_isLaid a3 a1 X12 Y13 (fun r18 X19 Y20 => ((r18 = 0 → ∀ w23 : Int32, w23 = a3 + 1 → I15 a1 a2 w23 X19 Y20) ∧ (¬ r18 = 0 → vp_in a2 10 ∧ vp_in (X19 38 a2.toNatClampNeg) 18 ∧ vp_in a3 10 ∧ vp_in (X19 38 a2.toNatClampNeg) 18 ∧ ∀ X25 : XT, X25 = sX X19 34 (X19 38 a2.toNatClampNeg).toNatClampNeg ((X19 34 (X19 38 a2.toNatClampNeg).toNatClampNeg) ||| (1 <<< ((X19 38 a3.toNatClampNeg) &&& 31))) → ∀ w27 : Int32, w27 = a3 + 1 → I15 a1 a2 w27 X25 Y20)))))))))))
def BX0_layTwins_s (I2 : Int32 → Int32 → XT → YT → Prop) (I15 : Int32 → Int32 → Int32 → XT → YT → Prop) (Q : XT → YT → Prop) (p0 : Int32) (X : XT) (Y : YT) : Prop :=
  I2 p0 0 X Y
def PX0_layTwins (p0 : Int32) (X : XT) (Y : YT) (Q : XT → YT → Prop) : Prop := ∀ (I2 : Int32 → Int32 → XT → YT → Prop) (I15 : Int32 → Int32 → Int32 → XT → YT → Prop), (∀ (a1 : Int32) (a2 : Int32) (X : XT) (Y : YT), BX0_layTwins_2 I2 I15 Q a1 a2 X Y → I2 a1 a2 X Y) → (∀ (a1 : Int32) (a2 : Int32) (a3 : Int32) (X : XT) (Y : YT), BX0_layTwins_15 I2 I15 Q a1 a2 a3 X Y → I15 a1 a2 a3 X Y) → BX0_layTwins_s I2 I15 Q p0 X Y
set_option maxHeartbeats 4000000 in
set_option maxRecDepth 100000 in
theorem kX0_layTwins_2 {Γ : Cxt} {Q : XT → YT → Prop} (O : Ok Γ RX0 cX0_layTwins 4 { frames := 2, cells := 0, slots := 0, locals := 43 }) (r : Ret Γ none (qV Q)) {I2 : Int32 → Int32 → XT → YT → Prop} {I15 : Int32 → Int32 → Int32 → XT → YT → Prop} (e2 : ∀ (a1 : Int32) (a2 : Int32) (X : XT) (Y : YT), I2 a1 a2 X Y → V Γ 2 [(0, .ref 35), (1, .int a1), (2, .int a2)] [] X Y) (e15 : ∀ (a1 : Int32) (a2 : Int32) (a3 : Int32) (X : XT) (Y : YT), I15 a1 a2 a3 X Y → V Γ 15 [(0, .ref 35), (1, .int a1), (2, .int a2), (3, .int a3)] [] X Y) {a1 : Int32} {a2 : Int32} {X : XT} {Y : YT} (h : BX0_layTwins_2 I2 I15 Q a1 a2 X Y) : V Γ 2 [(0, .ref 35), (1, .int a1), (2, .int a2)] [] X Y := by
  refine v_iload_n O dX0_layTwins_2 rfl 2 rfl ?_
  refine v_aload_n O dX0_layTwins_3 rfl 0 rfl ?_
  refine v_get O dX0_layTwins_4 fo_X0_25 sh_35 rfl rfl ?_
  refine v_get O dX0_layTwins_7 fo_X0_115 sh_13 rfl rfl ?_
  refine v_icmp_ge (tgt := 91) O dX0_layTwins_10 (by decide) (fun g1 => ?_) (fun g1 => ?_)
  · exact v_vret O r dX0_layTwins_91 ⟨rfl, (h.1 g1)⟩
  · refine v_iconst O dX0_layTwins_13 kc_0 ?_
    refine v_istore_n (lv' := [(3, .int 0), (0, .ref 35), (1, .int a1), (2, .int a2)]) O dX0_layTwins_14 rfl (by decide) rfl ?_
    exact v_loc [1, 2, 3, 0] rfl (e15 a1 a2 0 X Y (h.2 g1))
set_option maxHeartbeats 4000000 in
set_option maxRecDepth 100000 in
theorem kX0_layTwins_15 {Γ : Cxt} {Q : XT → YT → Prop} (O : Ok Γ RX0 cX0_layTwins 4 { frames := 2, cells := 0, slots := 0, locals := 43 }) (r : Ret Γ none (qV Q)) {I2 : Int32 → Int32 → XT → YT → Prop} {I15 : Int32 → Int32 → Int32 → XT → YT → Prop} (e2 : ∀ (a1 : Int32) (a2 : Int32) (X : XT) (Y : YT), I2 a1 a2 X Y → V Γ 2 [(0, .ref 35), (1, .int a1), (2, .int a2)] [] X Y) (e15 : ∀ (a1 : Int32) (a2 : Int32) (a3 : Int32) (X : XT) (Y : YT), I15 a1 a2 a3 X Y → V Γ 15 [(0, .ref 35), (1, .int a1), (2, .int a2), (3, .int a3)] [] X Y) {a1 : Int32} {a2 : Int32} {a3 : Int32} {X : XT} {Y : YT} (h : BX0_layTwins_15 I2 I15 Q a1 a2 a3 X Y) : V Γ 15 [(0, .ref 35), (1, .int a1), (2, .int a2), (3, .int a3)] [] X Y := by
  refine v_iload_n O dX0_layTwins_15 rfl 3 rfl ?_
  refine v_iload_n O dX0_layTwins_16 rfl 2 rfl ?_
  refine v_icmp_ge (tgt := 85) O dX0_layTwins_17 (by decide) (fun g1 => ?_) (fun g1 => ?_)
  · obtain ⟨w2, hw3⟩ : ∃ y : Int32, y = a2 + 1 := ⟨_, rfl⟩
    refine v_iinc (v := w2) (j := 2) O dX0_layTwins_85 rfl (by rw [hw3]; exact congrArg _ kc_1) (by decide) (lv' := [(2, .int w2), (0, .ref 35), (1, .int a1), (3, .int a3)]) rfl ?_
    refine v_goto O dX0_layTwins_88 (tgt := 2) (by decide) ?_
    exact v_loc [1, 2, 0] rfl (e2 a1 w2 X Y ((h.1 g1) w2 hw3))
  · refine v_aload_n O dX0_layTwins_20 rfl 0 rfl ?_
    refine v_get O dX0_layTwins_21 fo_X0_25 sh_35 rfl rfl ?_
    refine v_get O dX0_layTwins_24 fo_X0_118 sh_13 rfl rfl ?_
    refine v_iload_n O dX0_layTwins_27 rfl 2 rfl ?_
    refine v_iald O dX0_layTwins_28 sh_23 (h.2 g1).1 ?_
    refine v_iload_n O dX0_layTwins_29 rfl 3 rfl ?_
    refine v_callN (rm' := { frames := 0, cells := 0, slots := 0, locals := 0 }) (As := [.int (X 23 a2.toNatClampNeg), .int a3]) (st := []) O dX0_layTwins_30 ci_X9_has ml_X0_77 ms_X9_has ⟨rfl, rfl, (by decide), (by decide)⟩ rfl (Nat.le_of_ble_eq_true rfl) rfl (mX9_has (h.2 g1).2) (k_I (fun r4 X5 Y6 h7 => ?_))
    refine v_if_eq (tgt := 79) O dX0_layTwins_33 (by decide) (fun g8 => ?_) (fun g8 => ?_)
    · obtain ⟨w9, hw10⟩ : ∃ y : Int32, y = a3 + 1 := ⟨_, rfl⟩
      refine v_iinc (v := w9) (j := 3) O dX0_layTwins_79 rfl (by rw [hw10]; exact congrArg _ kc_1) (by decide) (lv' := [(3, .int w9), (0, .ref 35), (1, .int a1), (2, .int a2)]) rfl ?_
      refine v_goto O dX0_layTwins_82 (tgt := 15) (by decide) ?_
      exact v_loc [1, 2, 3, 0] rfl (e15 a1 a2 w9 X5 Y6 ((h7.1 g8) w9 hw10))
    · refine v_aload_n O dX0_layTwins_36 rfl 0 rfl ?_
      refine v_iload_n O dX0_layTwins_37 rfl 2 rfl ?_
      refine v_iload_n O dX0_layTwins_38 rfl 1 rfl ?_
      refine v_callV (rm' := { frames := 1, cells := 0, slots := 0, locals := 21 }) (As := [.int a2, .int a1]) (st := []) O dX0_layTwins_39 ci_X0_isLaid ml_X0_121 mi_X0_isLaid sh_35 rfl ⟨rfl, rfl, (by decide), (by decide)⟩ rfl (Nat.le_of_ble_eq_true rfl) rfl (mX0_isLaid (h7.2 g8)) (k_I (fun r11 X12 Y13 h14 => ?_))
      refine v_if_eq (tgt := 79) O dX0_layTwins_42 (by decide) (fun g15 => ?_) (fun g15 => ?_)
      · obtain ⟨w16, hw17⟩ : ∃ y : Int32, y = a3 + 1 := ⟨_, rfl⟩
        refine v_iinc (v := w16) (j := 3) O dX0_layTwins_79 rfl (by rw [hw17]; exact congrArg _ kc_1) (by decide) (lv' := [(3, .int w16), (0, .ref 35), (1, .int a1), (2, .int a2)]) rfl ?_
        refine v_goto O dX0_layTwins_82 (tgt := 15) (by decide) ?_
        exact v_loc [1, 2, 3, 0] rfl (e15 a1 a2 w16 X12 Y13 ((h14.1 g15) w16 hw17))
      · refine v_aload_n O dX0_layTwins_45 rfl 0 rfl ?_
        refine v_iload_n O dX0_layTwins_46 rfl 3 rfl ?_
        refine v_iload_n O dX0_layTwins_47 rfl 1 rfl ?_
        refine v_callV (rm' := { frames := 1, cells := 0, slots := 0, locals := 21 }) (As := [.int a3, .int a1]) (st := []) O dX0_layTwins_48 ci_X0_isLaid ml_X0_121 mi_X0_isLaid sh_35 rfl ⟨rfl, rfl, (by decide), (by decide)⟩ rfl (Nat.le_of_ble_eq_true rfl) rfl (mX0_isLaid (h14.2 g15)) (k_I (fun r18 X19 Y20 h21 => ?_))
        refine v_if_eq (tgt := 79) O dX0_layTwins_51 (by decide) (fun g22 => ?_) (fun g22 => ?_)
        · obtain ⟨w23, hw24⟩ : ∃ y : Int32, y = a3 + 1 := ⟨_, rfl⟩
          refine v_iinc (v := w23) (j := 3) O dX0_layTwins_79 rfl (by rw [hw24]; exact congrArg _ kc_1) (by decide) (lv' := [(3, .int w23), (0, .ref 35), (1, .int a1), (2, .int a2)]) rfl ?_
          refine v_goto O dX0_layTwins_82 (tgt := 15) (by decide) ?_
          exact v_loc [1, 2, 3, 0] rfl (e15 a1 a2 w23 X19 Y20 ((h21.1 g22) w23 hw24))
        · refine v_aload_n O dX0_layTwins_54 rfl 0 rfl ?_
          refine v_get O dX0_layTwins_55 fo_X0_29 sh_35 rfl rfl ?_
          refine v_get O dX0_layTwins_58 fo_X0_124 sh_31 rfl rfl ?_
          refine v_aload_n O dX0_layTwins_61 rfl 0 rfl ?_
          refine v_get O dX0_layTwins_62 fo_X0_18 sh_35 rfl rfl ?_
          refine v_iload_n O dX0_layTwins_65 rfl 2 rfl ?_
          refine v_iald O dX0_layTwins_66 sh_38 (h21.2 g22).1 ?_
          refine v_dup2 O dX0_layTwins_67 rfl rfl ?_
          refine v_iald O dX0_layTwins_68 sh_34 (h21.2 g22).2.1 ?_
          refine v_iconst O dX0_layTwins_69 kc_1 ?_
          refine v_aload_n O dX0_layTwins_70 rfl 0 rfl ?_
          refine v_get O dX0_layTwins_71 fo_X0_18 sh_35 rfl rfl ?_
          refine v_iload_n O dX0_layTwins_74 rfl 3 rfl ?_
          refine v_iald O dX0_layTwins_75 sh_38 (h21.2 g22).2.2.1 ?_
          refine v_ishl O dX0_layTwins_76 ?_
          refine v_ior O dX0_layTwins_77 ?_
          refine v_iast O dX0_layTwins_78 sh_34 (h21.2 g22).2.2.2.1 ?_
          refine v_nmX (fun X25 hX26 => ?_)
          obtain ⟨w27, hw28⟩ : ∃ y : Int32, y = a3 + 1 := ⟨_, rfl⟩
          refine v_iinc (v := w27) (j := 3) O dX0_layTwins_79 rfl (by rw [hw28]; exact congrArg _ kc_1) (by decide) (lv' := [(3, .int w27), (0, .ref 35), (1, .int a1), (2, .int a2)]) rfl ?_
          refine v_goto O dX0_layTwins_82 (tgt := 15) (by decide) ?_
          exact v_loc [1, 2, 3, 0] rfl (e15 a1 a2 w27 X25 Y20 (((h21.2 g22).2.2.2.2 X25 hX26) w27 hw28))
set_option maxHeartbeats 4000000 in
set_option maxRecDepth 100000 in
theorem kX0_layTwins_s {Γ : Cxt} {Q : XT → YT → Prop} (O : Ok Γ RX0 cX0_layTwins 4 { frames := 2, cells := 0, slots := 0, locals := 43 }) (r : Ret Γ none (qV Q)) {I2 : Int32 → Int32 → XT → YT → Prop} {I15 : Int32 → Int32 → Int32 → XT → YT → Prop} (e2 : ∀ (a1 : Int32) (a2 : Int32) (X : XT) (Y : YT), I2 a1 a2 X Y → V Γ 2 [(0, .ref 35), (1, .int a1), (2, .int a2)] [] X Y) (e15 : ∀ (a1 : Int32) (a2 : Int32) (a3 : Int32) (X : XT) (Y : YT), I15 a1 a2 a3 X Y → V Γ 15 [(0, .ref 35), (1, .int a1), (2, .int a2), (3, .int a3)] [] X Y) {p0 : Int32} {X : XT} {Y : YT} (h : BX0_layTwins_s I2 I15 Q p0 X Y) : V Γ 0 [(0, .ref 35), (1, .int p0)] [] X Y := by
  refine v_iconst O dX0_layTwins_0 kc_0 ?_
  refine v_istore_n (lv' := [(2, .int 0), (0, .ref 35), (1, .int p0)]) O dX0_layTwins_1 rfl (by decide) rfl ?_
  exact v_loc [1, 2, 0] rfl (e2 p0 0 X Y h)
set_option maxRecDepth 100000 in
theorem mX0_layTwins {Γ : Cxt} {p0 : Int32} {X : XT} {Y : YT} {Q : XT → YT → Prop} (h : PX0_layTwins p0 X Y Q) : MT Γ yX0_layTwins (.code yX0_layTwins cX0_layTwins 4 none :: wl) { frames := 2, cells := 0, slots := 0, locals := 43 } [.ref 35, .int p0] X Y (qV Q) :=
  mt_of (by decide) (Nat.le_of_ble_eq_true rfl) (fun Γ _ O r => kX0_layTwins_s O r (fun _ _ _ _ g => g) (fun _ _ _ _ _ g => g) (h (fun a1 a2 X Y => V Γ 2 [(0, .ref 35), (1, .int a1), (2, .int a2)] [] X Y) (fun a1 a2 a3 X Y => V Γ 15 [(0, .ref 35), (1, .int a1), (2, .int a2), (3, .int a3)] [] X Y) (fun _ _ _ _ g => kX0_layTwins_2 O r (fun _ _ _ _ g => g) (fun _ _ _ _ _ g => g) g) (fun _ _ _ _ _ g => kX0_layTwins_15 O r (fun _ _ _ _ g => g) (fun _ _ _ _ _ g => g) g)))
theorem dX0_noteSlot_0 : decode cX0_noteSlot 0 = .ok (.iload_n 1, 1) := by decide +kernel
theorem dX0_noteSlot_1 : decode cX0_noteSlot 1 = .ok (.iconst (-1), 1) := by decide +kernel
theorem dX0_noteSlot_2 : decode cX0_noteSlot 2 = .ok (.if_icmp .eq 16, 3) := by decide +kernel
theorem dX0_noteSlot_5 : decode cX0_noteSlot 5 = .ok (.aload_n 0, 1) := by decide +kernel
theorem dX0_noteSlot_6 : decode cX0_noteSlot 6 = .ok (.getfield 18, 3) := by decide +kernel
theorem dX0_noteSlot_9 : decode cX0_noteSlot 9 = .ok (.iload_n 1, 1) := by decide +kernel
theorem dX0_noteSlot_10 : decode cX0_noteSlot 10 = .ok (.aload_n 0, 1) := by decide +kernel
theorem dX0_noteSlot_11 : decode cX0_noteSlot 11 = .ok (.getfield 29, 3) := by decide +kernel
theorem dX0_noteSlot_14 : decode cX0_noteSlot 14 = .ok (.getfield 88, 3) := by decide +kernel
theorem dX0_noteSlot_17 : decode cX0_noteSlot 17 = .ok (.iastore, 1) := by decide +kernel
theorem dX0_noteSlot_18 : decode cX0_noteSlot 18 = .ok (.return_, 1) := by decide +kernel
def BX0_noteSlot_s (Q : XT → YT → Prop) (p0 : Int32) (X : XT) (Y : YT) : Prop :=
  ((p0 = (-1) → Q X Y) ∧ (¬ p0 = (-1) → vp_in p0 10 ∧ Q (sX X 38 p0.toNatClampNeg (X 31 3)) Y))
def PX0_noteSlot (p0 : Int32) (X : XT) (Y : YT) (Q : XT → YT → Prop) : Prop :=  BX0_noteSlot_s Q p0 X Y
set_option maxHeartbeats 4000000 in
set_option maxRecDepth 100000 in
theorem kX0_noteSlot_s {Γ : Cxt} {Q : XT → YT → Prop} (O : Ok Γ RX0 cX0_noteSlot 2 { frames := 0, cells := 0, slots := 0, locals := 0 }) (r : Ret Γ none (qV Q)) {p0 : Int32} {X : XT} {Y : YT} (h : BX0_noteSlot_s Q p0 X Y) : V Γ 0 [(0, .ref 35), (1, .int p0)] [] X Y := by
  refine v_iload_n O dX0_noteSlot_0 rfl 1 rfl ?_
  refine v_iconst O dX0_noteSlot_1 kc_m1 ?_
  refine v_icmp_eq (tgt := 18) O dX0_noteSlot_2 (by decide) (fun g1 => ?_) (fun g1 => ?_)
  · exact v_vret O r dX0_noteSlot_18 ⟨rfl, (h.1 g1)⟩
  · refine v_aload_n O dX0_noteSlot_5 rfl 0 rfl ?_
    refine v_get O dX0_noteSlot_6 fo_X0_18 sh_35 rfl rfl ?_
    refine v_iload_n O dX0_noteSlot_9 rfl 1 rfl ?_
    refine v_aload_n O dX0_noteSlot_10 rfl 0 rfl ?_
    refine v_get O dX0_noteSlot_11 fo_X0_29 sh_35 rfl rfl ?_
    refine v_get O dX0_noteSlot_14 fo_X0_88 sh_31 rfl rfl ?_
    refine v_iast O dX0_noteSlot_17 sh_38 (h.2 g1).1 ?_
    exact v_vret O r dX0_noteSlot_18 ⟨rfl, (h.2 g1).2⟩
set_option maxRecDepth 100000 in
theorem mX0_noteSlot {Γ : Cxt} {p0 : Int32} {X : XT} {Y : YT} {Q : XT → YT → Prop} (h : PX0_noteSlot p0 X Y Q) : MT Γ yX0_noteSlot (.code yX0_noteSlot cX0_noteSlot 2 none :: wl) { frames := 0, cells := 0, slots := 0, locals := 0 } [.ref 35, .int p0] X Y (qV Q) :=
  mt_of (by decide) (Nat.le_of_ble_eq_true rfl) (fun Γ _ O r => kX0_noteSlot_s O r  (h ))
theorem dX1_shutOutBy_0 : decode cX1_shutOutBy 0 = .ok (.iconst 1, 1) := by decide +kernel
theorem dX1_shutOutBy_1 : decode cX1_shutOutBy 1 = .ok (.iload_n 1, 1) := by decide +kernel
theorem dX1_shutOutBy_2 : decode cX1_shutOutBy 2 = .ok (.ishl, 1) := by decide +kernel
theorem dX1_shutOutBy_3 : decode cX1_shutOutBy 3 = .ok (.aload_n 0, 1) := by decide +kernel
theorem dX1_shutOutBy_4 : decode cX1_shutOutBy 4 = .ok (.getfield 36, 3) := by decide +kernel
theorem dX1_shutOutBy_7 : decode cX1_shutOutBy 7 = .ok (.iload_n 1, 1) := by decide +kernel
theorem dX1_shutOutBy_8 : decode cX1_shutOutBy 8 = .ok (.iaload, 1) := by decide +kernel
theorem dX1_shutOutBy_9 : decode cX1_shutOutBy 9 = .ok (.ior, 1) := by decide +kernel
theorem dX1_shutOutBy_10 : decode cX1_shutOutBy 10 = .ok (.ireturn, 1) := by decide +kernel
def BX1_shutOutBy_s (Q : Int32 → XT → YT → Prop) (p0 : Int32) (X : XT) (Y : YT) : Prop :=
  vp_in p0 10 ∧ Q ((1 <<< (p0 &&& 31)) ||| (X 12 p0.toNatClampNeg)) X Y
def PX1_shutOutBy (p0 : Int32) (X : XT) (Y : YT) (Q : Int32 → XT → YT → Prop) : Prop :=  BX1_shutOutBy_s Q p0 X Y
set_option maxHeartbeats 4000000 in
set_option maxRecDepth 100000 in
theorem kX1_shutOutBy_s {Γ : Cxt} {Q : Int32 → XT → YT → Prop} (O : Ok Γ RX1 cX1_shutOutBy 2 { frames := 0, cells := 0, slots := 0, locals := 0 }) (r : Ret Γ (some .int) (qI Q)) {p0 : Int32} {X : XT} {Y : YT} (h : BX1_shutOutBy_s Q p0 X Y) : V Γ 0 [(0, .ref 3), (1, .int p0)] [] X Y := by
  refine v_iconst O dX1_shutOutBy_0 kc_1 ?_
  refine v_iload_n O dX1_shutOutBy_1 rfl 1 rfl ?_
  refine v_ishl O dX1_shutOutBy_2 ?_
  refine v_aload_n O dX1_shutOutBy_3 rfl 0 rfl ?_
  refine v_get O dX1_shutOutBy_4 fo_X1_36 sh_3 rfl rfl ?_
  refine v_iload_n O dX1_shutOutBy_7 rfl 1 rfl ?_
  refine v_iald O dX1_shutOutBy_8 sh_12 h.1 ?_
  refine v_ior O dX1_shutOutBy_9 ?_
  exact v_iret O r dX1_shutOutBy_10 ⟨_, rfl, h.2⟩
set_option maxRecDepth 100000 in
theorem mX1_shutOutBy {Γ : Cxt} {p0 : Int32} {X : XT} {Y : YT} {Q : Int32 → XT → YT → Prop} (h : PX1_shutOutBy p0 X Y Q) : MT Γ yX1_shutOutBy (.code yX1_shutOutBy cX1_shutOutBy 2 (some .int) :: wl) { frames := 0, cells := 0, slots := 0, locals := 0 } [.ref 3, .int p0] X Y (qI Q) :=
  mt_of (by decide) (Nat.le_of_ble_eq_true rfl) (fun Γ _ O r => kX1_shutOutBy_s O r  (h ))
theorem dJ7_fill_53178_0 : decode cJ7_fill_53178 0 = .ok (.iconst 0, 1) := by decide +kernel
theorem dJ7_fill_53178_1 : decode cJ7_fill_53178 1 = .ok (.istore_n 2, 1) := by decide +kernel
theorem dJ7_fill_53178_2 : decode cJ7_fill_53178 2 = .ok (.aload_n 0, 1) := by decide +kernel
theorem dJ7_fill_53178_3 : decode cJ7_fill_53178 3 = .ok (.arraylength, 1) := by decide +kernel
theorem dJ7_fill_53178_4 : decode cJ7_fill_53178 4 = .ok (.istore_n 3, 1) := by decide +kernel
theorem dJ7_fill_53178_5 : decode cJ7_fill_53178 5 = .ok (.iload_n 2, 1) := by decide +kernel
theorem dJ7_fill_53178_6 : decode cJ7_fill_53178 6 = .ok (.iload_n 3, 1) := by decide +kernel
theorem dJ7_fill_53178_7 : decode cJ7_fill_53178 7 = .ok (.if_icmp .ge 13, 3) := by decide +kernel
theorem dJ7_fill_53178_10 : decode cJ7_fill_53178 10 = .ok (.aload_n 0, 1) := by decide +kernel
theorem dJ7_fill_53178_11 : decode cJ7_fill_53178 11 = .ok (.iload_n 2, 1) := by decide +kernel
theorem dJ7_fill_53178_12 : decode cJ7_fill_53178 12 = .ok (.iload_n 1, 1) := by decide +kernel
theorem dJ7_fill_53178_13 : decode cJ7_fill_53178 13 = .ok (.iastore, 1) := by decide +kernel
theorem dJ7_fill_53178_14 : decode cJ7_fill_53178 14 = .ok (.iinc 2 1, 3) := by decide +kernel
theorem dJ7_fill_53178_17 : decode cJ7_fill_53178 17 = .ok (.goto (-12), 3) := by decide +kernel
theorem dJ7_fill_53178_20 : decode cJ7_fill_53178 20 = .ok (.return_, 1) := by decide +kernel
def BJ7_fill_53178_37_5 (I5 : Int32 → Int32 → Int32 → XT → YT → Prop) (Q : XT → YT → Prop) (a1 : Int32) (a2 : Int32) (a3 : Int32) (X : XT) (Y : YT) : Prop :=
  ((a3 ≤ a2 → Q X Y) ∧ (¬ a3 ≤ a2 → vp_in a2 8 ∧ ∀ w2 : Int32, w2 = a2 + 1 → I5 a1 w2 a3 (sX X 37 a2.toNatClampNeg a1) Y))
def BJ7_fill_53178_37_s (I5 : Int32 → Int32 → Int32 → XT → YT → Prop) (Q : XT → YT → Prop) (p1 : Int32) (X : XT) (Y : YT) : Prop :=
  I5 p1 0 8 X Y
def PJ7_fill_53178_37 (p1 : Int32) (X : XT) (Y : YT) (Q : XT → YT → Prop) : Prop := ∀ (I5 : Int32 → Int32 → Int32 → XT → YT → Prop), (∀ (a1 : Int32) (a2 : Int32) (a3 : Int32) (X : XT) (Y : YT), BJ7_fill_53178_37_5 I5 Q a1 a2 a3 X Y → I5 a1 a2 a3 X Y) → BJ7_fill_53178_37_s I5 Q p1 X Y
set_option maxHeartbeats 4000000 in
set_option maxRecDepth 100000 in
theorem kJ7_fill_53178_37_5 {Γ : Cxt} {Q : XT → YT → Prop} (O : Ok Γ RJ7 cJ7_fill_53178 4 { frames := 0, cells := 0, slots := 0, locals := 0 }) (r : Ret Γ none (qV Q)) {I5 : Int32 → Int32 → Int32 → XT → YT → Prop} (e5 : ∀ (a1 : Int32) (a2 : Int32) (a3 : Int32) (X : XT) (Y : YT), I5 a1 a2 a3 X Y → V Γ 5 [(0, .ref 37), (1, .int a1), (2, .int a2), (3, .int a3)] [] X Y) {a1 : Int32} {a2 : Int32} {a3 : Int32} {X : XT} {Y : YT} (h : BJ7_fill_53178_37_5 I5 Q a1 a2 a3 X Y) : V Γ 5 [(0, .ref 37), (1, .int a1), (2, .int a2), (3, .int a3)] [] X Y := by
  refine v_iload_n O dJ7_fill_53178_5 rfl 2 rfl ?_
  refine v_iload_n O dJ7_fill_53178_6 rfl 3 rfl ?_
  refine v_icmp_ge (tgt := 20) O dJ7_fill_53178_7 (by decide) (fun g1 => ?_) (fun g1 => ?_)
  · exact v_vret O r dJ7_fill_53178_20 ⟨rfl, (h.1 g1)⟩
  · refine v_aload_n O dJ7_fill_53178_10 rfl 0 rfl ?_
    refine v_iload_n O dJ7_fill_53178_11 rfl 2 rfl ?_
    refine v_iload_n O dJ7_fill_53178_12 rfl 1 rfl ?_
    refine v_iast O dJ7_fill_53178_13 sh_37 (h.2 g1).1 ?_
    obtain ⟨w2, hw3⟩ : ∃ y : Int32, y = a2 + 1 := ⟨_, rfl⟩
    refine v_iinc (v := w2) (j := 2) O dJ7_fill_53178_14 rfl (by rw [hw3]; exact congrArg _ kc_1) (by decide) (lv' := [(2, .int w2), (0, .ref 37), (1, .int a1), (3, .int a3)]) rfl ?_
    refine v_goto O dJ7_fill_53178_17 (tgt := 5) (by decide) ?_
    exact v_loc [1, 2, 0, 3] rfl (e5 a1 w2 a3 (sX X 37 a2.toNatClampNeg a1) Y ((h.2 g1).2 w2 hw3))
set_option maxHeartbeats 4000000 in
set_option maxRecDepth 100000 in
theorem kJ7_fill_53178_37_s {Γ : Cxt} {Q : XT → YT → Prop} (O : Ok Γ RJ7 cJ7_fill_53178 4 { frames := 0, cells := 0, slots := 0, locals := 0 }) (r : Ret Γ none (qV Q)) {I5 : Int32 → Int32 → Int32 → XT → YT → Prop} (e5 : ∀ (a1 : Int32) (a2 : Int32) (a3 : Int32) (X : XT) (Y : YT), I5 a1 a2 a3 X Y → V Γ 5 [(0, .ref 37), (1, .int a1), (2, .int a2), (3, .int a3)] [] X Y) {p1 : Int32} {X : XT} {Y : YT} (h : BJ7_fill_53178_37_s I5 Q p1 X Y) : V Γ 0 [(0, .ref 37), (1, .int p1)] [] X Y := by
  refine v_iconst O dJ7_fill_53178_0 kc_0 ?_
  refine v_istore_n (lv' := [(2, .int 0), (0, .ref 37), (1, .int p1)]) O dJ7_fill_53178_1 rfl (by decide) rfl ?_
  refine v_aload_n O dJ7_fill_53178_2 rfl 1 rfl ?_
  refine v_alen O dJ7_fill_53178_3 sh_37 (v := 8) rfl ?_
  refine v_istore_n (lv' := [(3, .int 8), (2, .int 0), (0, .ref 37), (1, .int p1)]) O dJ7_fill_53178_4 rfl (by decide) rfl ?_
  exact v_loc [2, 3, 1, 0] rfl (e5 p1 0 8 X Y h)
set_option maxRecDepth 100000 in
theorem mJ7_fill_53178_37 {Γ : Cxt} {p1 : Int32} {X : XT} {Y : YT} {Q : XT → YT → Prop} (h : PJ7_fill_53178_37 p1 X Y Q) : MT Γ yJ7_fill_53178 (.code yJ7_fill_53178 cJ7_fill_53178 4 none :: wl) { frames := 0, cells := 0, slots := 0, locals := 0 } [.ref 37, .int p1] X Y (qV Q) :=
  mt_of (by decide) (Nat.le_of_ble_eq_true rfl) (fun Γ _ O r => kJ7_fill_53178_37_s O r (fun _ _ _ _ _ g => g) (h (fun a1 a2 a3 X Y => V Γ 5 [(0, .ref 37), (1, .int a1), (2, .int a2), (3, .int a3)] [] X Y) (fun _ _ _ _ _ g => kJ7_fill_53178_37_5 O r (fun _ _ _ _ _ g => g) g)))
theorem dX0_shutOutByShown_0 : decode cX0_shutOutByShown 0 = .ok (.aload_n 0, 1) := by decide +kernel
theorem dX0_shutOutByShown_1 : decode cX0_shutOutByShown 1 = .ok (.getfield 15, 3) := by decide +kernel
theorem dX0_shutOutByShown_4 : decode cX0_shutOutByShown 4 = .ok (.iconst 0, 1) := by decide +kernel
theorem dX0_shutOutByShown_5 : decode cX0_shutOutByShown 5 = .ok (.invokestatic 106, 3) := by decide +kernel
theorem dX0_shutOutByShown_8 : decode cX0_shutOutByShown 8 = .ok (.iconst 0, 1) := by decide +kernel
theorem dX0_shutOutByShown_9 : decode cX0_shutOutByShown 9 = .ok (.istore_n 2, 1) := by decide +kernel
theorem dX0_shutOutByShown_10 : decode cX0_shutOutByShown 10 = .ok (.iload_n 2, 1) := by decide +kernel
theorem dX0_shutOutByShown_11 : decode cX0_shutOutByShown 11 = .ok (.aload_n 0, 1) := by decide +kernel
theorem dX0_shutOutByShown_12 : decode cX0_shutOutByShown 12 = .ok (.getfield 25, 3) := by decide +kernel
theorem dX0_shutOutByShown_15 : decode cX0_shutOutByShown 15 = .ok (.getfield 70, 3) := by decide +kernel
theorem dX0_shutOutByShown_18 : decode cX0_shutOutByShown 18 = .ok (.if_icmp .ge 54, 3) := by decide +kernel
theorem dX0_shutOutByShown_21 : decode cX0_shutOutByShown 21 = .ok (.aload_n 0, 1) := by decide +kernel
theorem dX0_shutOutByShown_22 : decode cX0_shutOutByShown 22 = .ok (.getfield 25, 3) := by decide +kernel
theorem dX0_shutOutByShown_25 : decode cX0_shutOutByShown 25 = .ok (.iload_n 2, 1) := by decide +kernel
theorem dX0_shutOutByShown_26 : decode cX0_shutOutByShown 26 = .ok (.iload_n 1, 1) := by decide +kernel
theorem dX0_shutOutByShown_27 : decode cX0_shutOutByShown 27 = .ok (.invokevirtual 81, 3) := by decide +kernel
theorem dX0_shutOutByShown_30 : decode cX0_shutOutByShown 30 = .ok (.ifCond .eq 36, 3) := by decide +kernel
theorem dX0_shutOutByShown_33 : decode cX0_shutOutByShown 33 = .ok (.aload_n 0, 1) := by decide +kernel
theorem dX0_shutOutByShown_34 : decode cX0_shutOutByShown 34 = .ok (.getfield 15, 3) := by decide +kernel
theorem dX0_shutOutByShown_37 : decode cX0_shutOutByShown 37 = .ok (.aload_n 0, 1) := by decide +kernel
theorem dX0_shutOutByShown_38 : decode cX0_shutOutByShown 38 = .ok (.getfield 25, 3) := by decide +kernel
theorem dX0_shutOutByShown_41 : decode cX0_shutOutByShown 41 = .ok (.getfield 44, 3) := by decide +kernel
theorem dX0_shutOutByShown_44 : decode cX0_shutOutByShown 44 = .ok (.iload_n 2, 1) := by decide +kernel
theorem dX0_shutOutByShown_45 : decode cX0_shutOutByShown 45 = .ok (.iaload, 1) := by decide +kernel
theorem dX0_shutOutByShown_46 : decode cX0_shutOutByShown 46 = .ok (.dup2, 1) := by decide +kernel
theorem dX0_shutOutByShown_47 : decode cX0_shutOutByShown 47 = .ok (.iaload, 1) := by decide +kernel
theorem dX0_shutOutByShown_48 : decode cX0_shutOutByShown 48 = .ok (.aload_n 0, 1) := by decide +kernel
theorem dX0_shutOutByShown_49 : decode cX0_shutOutByShown 49 = .ok (.getfield 21, 3) := by decide +kernel
theorem dX0_shutOutByShown_52 : decode cX0_shutOutByShown 52 = .ok (.aload_n 0, 1) := by decide +kernel
theorem dX0_shutOutByShown_53 : decode cX0_shutOutByShown 53 = .ok (.getfield 25, 3) := by decide +kernel
theorem dX0_shutOutByShown_56 : decode cX0_shutOutByShown 56 = .ok (.getfield 33, 3) := by decide +kernel
theorem dX0_shutOutByShown_59 : decode cX0_shutOutByShown 59 = .ok (.iload_n 2, 1) := by decide +kernel
theorem dX0_shutOutByShown_60 : decode cX0_shutOutByShown 60 = .ok (.iaload, 1) := by decide +kernel
theorem dX0_shutOutByShown_61 : decode cX0_shutOutByShown 61 = .ok (.invokevirtual 112, 3) := by decide +kernel
theorem dX0_shutOutByShown_64 : decode cX0_shutOutByShown 64 = .ok (.ior, 1) := by decide +kernel
theorem dX0_shutOutByShown_65 : decode cX0_shutOutByShown 65 = .ok (.iastore, 1) := by decide +kernel
theorem dX0_shutOutByShown_66 : decode cX0_shutOutByShown 66 = .ok (.iinc 2 1, 3) := by decide +kernel
theorem dX0_shutOutByShown_69 : decode cX0_shutOutByShown 69 = .ok (.goto (-59), 3) := by decide +kernel
theorem dX0_shutOutByShown_72 : decode cX0_shutOutByShown 72 = .ok (.return_, 1) := by decide +kernel
def BX0_shutOutByShown_10 (I10 : Int32 → Int32 → XT → YT → Prop) (Q : XT → YT → Prop) (a1 : Int32) (a2 : Int32) (X : XT) (Y : YT) : Prop :=
  (((X 13 11) ≤ a2 → Q X Y) ∧ (¬ (X 13 11) ≤ a2 → PX3_isShown a2 a1 X Y (fun r2 X3 Y4 => ((r2 = 0 → ∀ w7 : Int32, w7 = a2 + 1 → I10 a1 w7 X3 Y4) ∧ (¬ r2 = 0 → vp_in a2 32 ∧ vp_in (X3 16 a2.toNatClampNeg) 8 ∧ vp_in a2 32 ∧ PX1_shutOutBy (X3 18 a2.toNatClampNeg) X3 Y4 (fun r9 X10 Y11 => vp_in (X3 16 a2.toNatClampNeg) 8 ∧ ∀ X13 : XT, X13 = sX X10 37 (X3 16 a2.toNatClampNeg).toNatClampNeg ((X3 37 (X3 16 a2.toNatClampNeg).toNatClampNeg) ||| r9) → ∀ w15 : Int32, w15 = a2 + 1 → I10 a1 w15 X13 Y11))))))
def BX0_shutOutByShown_s (I10 : Int32 → Int32 → XT → YT → Prop) (Q : XT → YT → Prop) (p0 : Int32) (X : XT) (Y : YT) : Prop :=
  PJ7_fill_53178_37 0 X Y (fun X2 Y3 => I10 p0 0 X2 Y3)
def PX0_shutOutByShown (p0 : Int32) (X : XT) (Y : YT) (Q : XT → YT → Prop) : Prop := ∀ (I10 : Int32 → Int32 → XT → YT → Prop), (∀ (a1 : Int32) (a2 : Int32) (X : XT) (Y : YT), BX0_shutOutByShown_10 I10 Q a1 a2 X Y → I10 a1 a2 X Y) → BX0_shutOutByShown_s I10 Q p0 X Y
set_option maxHeartbeats 4000000 in
set_option maxRecDepth 100000 in
theorem kX0_shutOutByShown_10 {Γ : Cxt} {Q : XT → YT → Prop} (O : Ok Γ RX0 cX0_shutOutByShown 3 { frames := 2, cells := 0, slots := 0, locals := 44 }) (r : Ret Γ none (qV Q)) {I10 : Int32 → Int32 → XT → YT → Prop} (e10 : ∀ (a1 : Int32) (a2 : Int32) (X : XT) (Y : YT), I10 a1 a2 X Y → V Γ 10 [(0, .ref 35), (1, .int a1), (2, .int a2)] [] X Y) {a1 : Int32} {a2 : Int32} {X : XT} {Y : YT} (h : BX0_shutOutByShown_10 I10 Q a1 a2 X Y) : V Γ 10 [(0, .ref 35), (1, .int a1), (2, .int a2)] [] X Y := by
  refine v_iload_n O dX0_shutOutByShown_10 rfl 2 rfl ?_
  refine v_aload_n O dX0_shutOutByShown_11 rfl 0 rfl ?_
  refine v_get O dX0_shutOutByShown_12 fo_X0_25 sh_35 rfl rfl ?_
  refine v_get O dX0_shutOutByShown_15 fo_X0_70 sh_13 rfl rfl ?_
  refine v_icmp_ge (tgt := 72) O dX0_shutOutByShown_18 (by decide) (fun g1 => ?_) (fun g1 => ?_)
  · exact v_vret O r dX0_shutOutByShown_72 ⟨rfl, (h.1 g1)⟩
  · refine v_aload_n O dX0_shutOutByShown_21 rfl 0 rfl ?_
    refine v_get O dX0_shutOutByShown_22 fo_X0_25 sh_35 rfl rfl ?_
    refine v_iload_n O dX0_shutOutByShown_25 rfl 2 rfl ?_
    refine v_iload_n O dX0_shutOutByShown_26 rfl 1 rfl ?_
    refine v_callV (rm' := { frames := 1, cells := 0, slots := 0, locals := 21 }) (As := [.int a2, .int a1]) (st := []) O dX0_shutOutByShown_27 ci_X3_isShown ml_X0_81 mi_X3_isShown sh_13 rfl ⟨rfl, rfl, (by decide), (by decide)⟩ rfl (Nat.le_of_ble_eq_true rfl) rfl (mX3_isShown (h.2 g1)) (k_I (fun r2 X3 Y4 h5 => ?_))
    refine v_if_eq (tgt := 66) O dX0_shutOutByShown_30 (by decide) (fun g6 => ?_) (fun g6 => ?_)
    · obtain ⟨w7, hw8⟩ : ∃ y : Int32, y = a2 + 1 := ⟨_, rfl⟩
      refine v_iinc (v := w7) (j := 2) O dX0_shutOutByShown_66 rfl (by rw [hw8]; exact congrArg _ kc_1) (by decide) (lv' := [(2, .int w7), (0, .ref 35), (1, .int a1)]) rfl ?_
      refine v_goto O dX0_shutOutByShown_69 (tgt := 10) (by decide) ?_
      exact v_loc [1, 2, 0] rfl (e10 a1 w7 X3 Y4 ((h5.1 g6) w7 hw8))
    · refine v_aload_n O dX0_shutOutByShown_33 rfl 0 rfl ?_
      refine v_get O dX0_shutOutByShown_34 fo_X0_15 sh_35 rfl rfl ?_
      refine v_aload_n O dX0_shutOutByShown_37 rfl 0 rfl ?_
      refine v_get O dX0_shutOutByShown_38 fo_X0_25 sh_35 rfl rfl ?_
      refine v_get O dX0_shutOutByShown_41 fo_X0_44 sh_13 rfl rfl ?_
      refine v_iload_n O dX0_shutOutByShown_44 rfl 2 rfl ?_
      refine v_iald O dX0_shutOutByShown_45 sh_16 (h5.2 g6).1 ?_
      refine v_dup2 O dX0_shutOutByShown_46 rfl rfl ?_
      refine v_iald O dX0_shutOutByShown_47 sh_37 (h5.2 g6).2.1 ?_
      refine v_aload_n O dX0_shutOutByShown_48 rfl 0 rfl ?_
      refine v_get O dX0_shutOutByShown_49 fo_X0_21 sh_35 rfl rfl ?_
      refine v_aload_n O dX0_shutOutByShown_52 rfl 0 rfl ?_
      refine v_get O dX0_shutOutByShown_53 fo_X0_25 sh_35 rfl rfl ?_
      refine v_get O dX0_shutOutByShown_56 fo_X0_33 sh_13 rfl rfl ?_
      refine v_iload_n O dX0_shutOutByShown_59 rfl 2 rfl ?_
      refine v_iald O dX0_shutOutByShown_60 sh_18 (h5.2 g6).2.2.1 ?_
      refine v_callV (rm' := { frames := 0, cells := 0, slots := 0, locals := 0 }) (As := [.int (X3 18 a2.toNatClampNeg)]) (st := [.int (X3 37 (X3 16 a2.toNatClampNeg).toNatClampNeg), .int (X3 16 a2.toNatClampNeg), .ref 37]) O dX0_shutOutByShown_61 ci_X1_shutOutBy ml_X0_112 mi_X1_shutOutBy sh_3 rfl ⟨rfl, rfl, (by decide), (by decide)⟩ rfl (Nat.le_of_ble_eq_true rfl) rfl (mX1_shutOutBy (h5.2 g6).2.2.2) (k_I (fun r9 X10 Y11 h12 => ?_))
      refine v_ior O dX0_shutOutByShown_64 ?_
      refine v_iast O dX0_shutOutByShown_65 sh_37 h12.1 ?_
      refine v_nmX (fun X13 hX14 => ?_)
      obtain ⟨w15, hw16⟩ : ∃ y : Int32, y = a2 + 1 := ⟨_, rfl⟩
      refine v_iinc (v := w15) (j := 2) O dX0_shutOutByShown_66 rfl (by rw [hw16]; exact congrArg _ kc_1) (by decide) (lv' := [(2, .int w15), (0, .ref 35), (1, .int a1)]) rfl ?_
      refine v_goto O dX0_shutOutByShown_69 (tgt := 10) (by decide) ?_
      exact v_loc [1, 2, 0] rfl (e10 a1 w15 X13 Y11 ((h12.2 X13 hX14) w15 hw16))
set_option maxHeartbeats 4000000 in
set_option maxRecDepth 100000 in
theorem kX0_shutOutByShown_s {Γ : Cxt} {Q : XT → YT → Prop} (O : Ok Γ RX0 cX0_shutOutByShown 3 { frames := 2, cells := 0, slots := 0, locals := 44 }) (r : Ret Γ none (qV Q)) {I10 : Int32 → Int32 → XT → YT → Prop} (e10 : ∀ (a1 : Int32) (a2 : Int32) (X : XT) (Y : YT), I10 a1 a2 X Y → V Γ 10 [(0, .ref 35), (1, .int a1), (2, .int a2)] [] X Y) {p0 : Int32} {X : XT} {Y : YT} (h : BX0_shutOutByShown_s I10 Q p0 X Y) : V Γ 0 [(0, .ref 35), (1, .int p0)] [] X Y := by
  refine v_aload_n O dX0_shutOutByShown_0 rfl 0 rfl ?_
  refine v_get O dX0_shutOutByShown_1 fo_X0_15 sh_35 rfl rfl ?_
  refine v_iconst O dX0_shutOutByShown_4 kc_0 ?_
  refine v_callS (rm' := { frames := 0, cells := 0, slots := 0, locals := 0 }) (As := [.ref 37, .int 0]) (st := []) O dX0_shutOutByShown_5 ci_J7_fill_53178 ml_X0_106 ms_J7_fill_53178 ⟨rfl, rfl, (by decide), (by decide)⟩ rfl (Nat.le_of_ble_eq_true rfl) rfl (mJ7_fill_53178_37 h) (k_V (fun X2 Y3 h4 => ?_))
  refine v_iconst O dX0_shutOutByShown_8 kc_0 ?_
  refine v_istore_n (lv' := [(2, .int 0), (0, .ref 35), (1, .int p0)]) O dX0_shutOutByShown_9 rfl (by decide) rfl ?_
  exact v_loc [1, 2, 0] rfl (e10 p0 0 X2 Y3 h4)
set_option maxRecDepth 100000 in
theorem mX0_shutOutByShown {Γ : Cxt} {p0 : Int32} {X : XT} {Y : YT} {Q : XT → YT → Prop} (h : PX0_shutOutByShown p0 X Y Q) : MT Γ yX0_shutOutByShown (.code yX0_shutOutByShown cX0_shutOutByShown 3 none :: wl) { frames := 2, cells := 0, slots := 0, locals := 44 } [.ref 35, .int p0] X Y (qV Q) :=
  mt_of (by decide) (Nat.le_of_ble_eq_true rfl) (fun Γ _ O r => kX0_shutOutByShown_s O r (fun _ _ _ _ g => g) (h (fun a1 a2 X Y => V Γ 10 [(0, .ref 35), (1, .int a1), (2, .int a2)] [] X Y) (fun _ _ _ _ g => kX0_shutOutByShown_10 O r (fun _ _ _ _ g => g) g)))
theorem dX6_add_0 : decode cX6_add 0 = .ok (.aload_n 0, 1) := by decide +kernel
theorem dX6_add_1 : decode cX6_add 1 = .ok (.getfield 21, 3) := by decide +kernel
theorem dX6_add_4 : decode cX6_add 4 = .ok (.bipush 18, 2) := by decide +kernel
theorem dX6_add_6 : decode cX6_add 6 = .ok (.if_icmp .ge 43, 3) := by decide +kernel
theorem dX6_add_9 : decode cX6_add 9 = .ok (.aload_n 0, 1) := by decide +kernel
theorem dX6_add_10 : decode cX6_add 10 = .ok (.getfield 9, 3) := by decide +kernel
theorem dX6_add_13 : decode cX6_add 13 = .ok (.aload_n 0, 1) := by decide +kernel
theorem dX6_add_14 : decode cX6_add 14 = .ok (.getfield 21, 3) := by decide +kernel
theorem dX6_add_17 : decode cX6_add 17 = .ok (.iload_n 1, 1) := by decide +kernel
theorem dX6_add_18 : decode cX6_add 18 = .ok (.iastore, 1) := by decide +kernel
theorem dX6_add_19 : decode cX6_add 19 = .ok (.aload_n 0, 1) := by decide +kernel
theorem dX6_add_20 : decode cX6_add 20 = .ok (.getfield 15, 3) := by decide +kernel
theorem dX6_add_23 : decode cX6_add 23 = .ok (.aload_n 0, 1) := by decide +kernel
theorem dX6_add_24 : decode cX6_add 24 = .ok (.getfield 21, 3) := by decide +kernel
theorem dX6_add_27 : decode cX6_add 27 = .ok (.iload_n 2, 1) := by decide +kernel
theorem dX6_add_28 : decode cX6_add 28 = .ok (.iastore, 1) := by decide +kernel
theorem dX6_add_29 : decode cX6_add 29 = .ok (.aload_n 0, 1) := by decide +kernel
theorem dX6_add_30 : decode cX6_add 30 = .ok (.getfield 18, 3) := by decide +kernel
theorem dX6_add_33 : decode cX6_add 33 = .ok (.aload_n 0, 1) := by decide +kernel
theorem dX6_add_34 : decode cX6_add 34 = .ok (.getfield 21, 3) := by decide +kernel
theorem dX6_add_37 : decode cX6_add 37 = .ok (.iconst 0, 1) := by decide +kernel
theorem dX6_add_38 : decode cX6_add 38 = .ok (.iastore, 1) := by decide +kernel
theorem dX6_add_39 : decode cX6_add 39 = .ok (.aload_n 0, 1) := by decide +kernel
theorem dX6_add_40 : decode cX6_add 40 = .ok (.dup, 1) := by decide +kernel
theorem dX6_add_41 : decode cX6_add 41 = .ok (.getfield 21, 3) := by decide +kernel
theorem dX6_add_44 : decode cX6_add 44 = .ok (.iconst 1, 1) := by decide +kernel
theorem dX6_add_45 : decode cX6_add 45 = .ok (.iadd, 1) := by decide +kernel
theorem dX6_add_46 : decode cX6_add 46 = .ok (.putfield 21, 3) := by decide +kernel
theorem dX6_add_49 : decode cX6_add 49 = .ok (.return_, 1) := by decide +kernel
def BX6_add_s (Q : XT → YT → Prop) (p0 : Int32) (p1 : Int32) (X : XT) (Y : YT) : Prop :=
  ((18 ≤ (X 31 3) → Q X Y) ∧ (¬ 18 ≤ (X 31 3) → vp_in (X 31 3) 18 ∧ vp_in ((sX X 32 (X 31 3).toNatClampNeg p0) 31 3) 18 ∧ ∀ X2 : XT, X2 = sX (sX X 32 (X 31 3).toNatClampNeg p0) 33 ((sX X 32 (X 31 3).toNatClampNeg p0) 31 3).toNatClampNeg p1 → vp_in (X2 31 3) 18 ∧ ∀ X4 : XT, X4 = sX (sX X2 34 (X2 31 3).toNatClampNeg 0) 31 3 (((sX X2 34 (X2 31 3).toNatClampNeg 0) 31 3) + 1) → Q X4 Y))
def PX6_add (p0 : Int32) (p1 : Int32) (X : XT) (Y : YT) (Q : XT → YT → Prop) : Prop :=  BX6_add_s Q p0 p1 X Y
set_option maxHeartbeats 4000000 in
set_option maxRecDepth 100000 in
theorem kX6_add_s {Γ : Cxt} {Q : XT → YT → Prop} (O : Ok Γ RX6 cX6_add 3 { frames := 0, cells := 0, slots := 0, locals := 0 }) (r : Ret Γ none (qV Q)) {p0 : Int32} {p1 : Int32} {X : XT} {Y : YT} (h : BX6_add_s Q p0 p1 X Y) : V Γ 0 [(0, .ref 31), (1, .int p0), (2, .int p1)] [] X Y := by
  refine v_aload_n O dX6_add_0 rfl 0 rfl ?_
  refine v_get O dX6_add_1 fo_X6_21 sh_31 rfl rfl ?_
  refine v_bipush O dX6_add_4 kb_18 ?_
  refine v_icmp_ge (tgt := 49) O dX6_add_6 (by decide) (fun g1 => ?_) (fun g1 => ?_)
  · exact v_vret O r dX6_add_49 ⟨rfl, (h.1 g1)⟩
  · refine v_aload_n O dX6_add_9 rfl 0 rfl ?_
    refine v_get O dX6_add_10 fo_X6_9 sh_31 rfl rfl ?_
    refine v_aload_n O dX6_add_13 rfl 0 rfl ?_
    refine v_get O dX6_add_14 fo_X6_21 sh_31 rfl rfl ?_
    refine v_iload_n O dX6_add_17 rfl 1 rfl ?_
    refine v_iast O dX6_add_18 sh_32 (h.2 g1).1 ?_
    refine v_aload_n O dX6_add_19 rfl 0 rfl ?_
    refine v_get O dX6_add_20 fo_X6_15 sh_31 rfl rfl ?_
    refine v_aload_n O dX6_add_23 rfl 0 rfl ?_
    refine v_get O dX6_add_24 fo_X6_21 sh_31 rfl rfl ?_
    refine v_iload_n O dX6_add_27 rfl 2 rfl ?_
    refine v_iast O dX6_add_28 sh_33 (h.2 g1).2.1 ?_
    refine v_nmX (fun X2 hX3 => ?_)
    refine v_aload_n O dX6_add_29 rfl 0 rfl ?_
    refine v_get O dX6_add_30 fo_X6_18 sh_31 rfl rfl ?_
    refine v_aload_n O dX6_add_33 rfl 0 rfl ?_
    refine v_get O dX6_add_34 fo_X6_21 sh_31 rfl rfl ?_
    refine v_iconst O dX6_add_37 kc_0 ?_
    refine v_iast O dX6_add_38 sh_34 ((h.2 g1).2.2 X2 hX3).1 ?_
    refine v_aload_n O dX6_add_39 rfl 0 rfl ?_
    refine v_dup O dX6_add_40 rfl ?_
    refine v_get O dX6_add_41 fo_X6_21 sh_31 rfl rfl ?_
    refine v_iconst O dX6_add_44 kc_1 ?_
    refine v_iadd O dX6_add_45 ?_
    refine v_putI O dX6_add_46 fo_X6_21 fp_6_3 sh_31 rfl rfl rfl ?_
    refine v_nmX (fun X4 hX5 => ?_)
    exact v_vret O r dX6_add_49 ⟨rfl, (((h.2 g1).2.2 X2 hX3).2 X4 hX5)⟩
set_option maxRecDepth 100000 in
theorem mX6_add {Γ : Cxt} {p0 : Int32} {p1 : Int32} {X : XT} {Y : YT} {Q : XT → YT → Prop} (h : PX6_add p0 p1 X Y Q) : MT Γ yX6_add (.code yX6_add cX6_add 3 none :: wl) { frames := 0, cells := 0, slots := 0, locals := 0 } [.ref 31, .int p0, .int p1] X Y (qV Q) :=
  mt_of (by decide) (Nat.le_of_ble_eq_true rfl) (fun Γ _ O r => kX6_add_s O r  (h ))
theorem dX0_lay_0 : decode cX0_lay 0 = .ok (.aload_n 0, 1) := by decide +kernel
theorem dX0_lay_1 : decode cX0_lay 1 = .ok (.iload_n 2, 1) := by decide +kernel
theorem dX0_lay_2 : decode cX0_lay 2 = .ok (.invokevirtual 84, 3) := by decide +kernel
theorem dX0_lay_5 : decode cX0_lay 5 = .ok (.aload_n 0, 1) := by decide +kernel
theorem dX0_lay_6 : decode cX0_lay 6 = .ok (.getfield 29, 3) := by decide +kernel
theorem dX0_lay_9 : decode cX0_lay 9 = .ok (.iconst 0, 1) := by decide +kernel
theorem dX0_lay_10 : decode cX0_lay 10 = .ok (.putfield 88, 3) := by decide +kernel
theorem dX0_lay_13 : decode cX0_lay 13 = .ok (.iconst 0, 1) := by decide +kernel
theorem dX0_lay_14 : decode cX0_lay 14 = .ok (.istore_n 3, 1) := by decide +kernel
theorem dX0_lay_15 : decode cX0_lay 15 = .ok (.iload_n 3, 1) := by decide +kernel
theorem dX0_lay_16 : decode cX0_lay 16 = .ok (.aload_n 0, 1) := by decide +kernel
theorem dX0_lay_17 : decode cX0_lay 17 = .ok (.getfield 25, 3) := by decide +kernel
theorem dX0_lay_20 : decode cX0_lay 20 = .ok (.getfield 70, 3) := by decide +kernel
theorem dX0_lay_23 : decode cX0_lay 23 = .ok (.if_icmp .ge 79, 3) := by decide +kernel
theorem dX0_lay_26 : decode cX0_lay 26 = .ok (.aload_n 0, 1) := by decide +kernel
theorem dX0_lay_27 : decode cX0_lay 27 = .ok (.getfield 25, 3) := by decide +kernel
theorem dX0_lay_30 : decode cX0_lay 30 = .ok (.getfield 44, 3) := by decide +kernel
theorem dX0_lay_33 : decode cX0_lay 33 = .ok (.iload_n 3, 1) := by decide +kernel
theorem dX0_lay_34 : decode cX0_lay 34 = .ok (.iaload, 1) := by decide +kernel
theorem dX0_lay_35 : decode cX0_lay 35 = .ok (.istore 4, 2) := by decide +kernel
theorem dX0_lay_37 : decode cX0_lay 37 = .ok (.iload_n 1, 1) := by decide +kernel
theorem dX0_lay_38 : decode cX0_lay 38 = .ok (.iload 4, 2) := by decide +kernel
theorem dX0_lay_40 : decode cX0_lay 40 = .ok (.invokestatic 77, 3) := by decide +kernel
theorem dX0_lay_43 : decode cX0_lay 43 = .ok (.ifCond .eq 53, 3) := by decide +kernel
theorem dX0_lay_46 : decode cX0_lay 46 = .ok (.aload_n 0, 1) := by decide +kernel
theorem dX0_lay_47 : decode cX0_lay 47 = .ok (.getfield 25, 3) := by decide +kernel
theorem dX0_lay_50 : decode cX0_lay 50 = .ok (.iload_n 3, 1) := by decide +kernel
theorem dX0_lay_51 : decode cX0_lay 51 = .ok (.iload_n 2, 1) := by decide +kernel
theorem dX0_lay_52 : decode cX0_lay 52 = .ok (.invokevirtual 81, 3) := by decide +kernel
theorem dX0_lay_55 : decode cX0_lay 55 = .ok (.ifCond .ne 41, 3) := by decide +kernel
theorem dX0_lay_58 : decode cX0_lay 58 = .ok (.aload_n 0, 1) := by decide +kernel
theorem dX0_lay_59 : decode cX0_lay 59 = .ok (.aload_n 0, 1) := by decide +kernel
theorem dX0_lay_60 : decode cX0_lay 60 = .ok (.getfield 25, 3) := by decide +kernel
theorem dX0_lay_63 : decode cX0_lay 63 = .ok (.getfield 93, 3) := by decide +kernel
theorem dX0_lay_66 : decode cX0_lay 66 = .ok (.iload_n 3, 1) := by decide +kernel
theorem dX0_lay_67 : decode cX0_lay 67 = .ok (.iaload, 1) := by decide +kernel
theorem dX0_lay_68 : decode cX0_lay 68 = .ok (.invokevirtual 96, 3) := by decide +kernel
theorem dX0_lay_71 : decode cX0_lay 71 = .ok (.aload_n 0, 1) := by decide +kernel
theorem dX0_lay_72 : decode cX0_lay 72 = .ok (.getfield 29, 3) := by decide +kernel
theorem dX0_lay_75 : decode cX0_lay 75 = .ok (.iload 4, 2) := by decide +kernel
theorem dX0_lay_77 : decode cX0_lay 77 = .ok (.aload_n 0, 1) := by decide +kernel
theorem dX0_lay_78 : decode cX0_lay 78 = .ok (.getfield 9, 3) := by decide +kernel
theorem dX0_lay_81 : decode cX0_lay 81 = .ok (.iload_n 3, 1) := by decide +kernel
theorem dX0_lay_82 : decode cX0_lay 82 = .ok (.iaload, 1) := by decide +kernel
theorem dX0_lay_83 : decode cX0_lay 83 = .ok (.aload_n 0, 1) := by decide +kernel
theorem dX0_lay_84 : decode cX0_lay 84 = .ok (.getfield 15, 3) := by decide +kernel
theorem dX0_lay_87 : decode cX0_lay 87 = .ok (.iload 4, 2) := by decide +kernel
theorem dX0_lay_89 : decode cX0_lay 89 = .ok (.iaload, 1) := by decide +kernel
theorem dX0_lay_90 : decode cX0_lay 90 = .ok (.iconst (-1), 1) := by decide +kernel
theorem dX0_lay_91 : decode cX0_lay 91 = .ok (.ixor, 1) := by decide +kernel
theorem dX0_lay_92 : decode cX0_lay 92 = .ok (.iand, 1) := by decide +kernel
theorem dX0_lay_93 : decode cX0_lay 93 = .ok (.invokevirtual 99, 3) := by decide +kernel
theorem dX0_lay_96 : decode cX0_lay 96 = .ok (.iinc 3 1, 3) := by decide +kernel
theorem dX0_lay_99 : decode cX0_lay 99 = .ok (.goto (-84), 3) := by decide +kernel
theorem dX0_lay_102 : decode cX0_lay 102 = .ok (.aload_n 0, 1) := by decide +kernel
theorem dX0_lay_103 : decode cX0_lay 103 = .ok (.iload_n 1, 1) := by decide +kernel
theorem dX0_lay_104 : decode cX0_lay 104 = .ok (.invokevirtual 103, 3) := by decide +kernel
theorem dX0_lay_107 : decode cX0_lay 107 = .ok (.return_, 1) := by decide +kernel
def BX0_lay_15 (I15 : Int32 → Int32 → Int32 → XT → YT → Prop) (Q : XT → YT → Prop) (a1 : Int32) (a2 : Int32) (a3 : Int32) (X : XT) (Y : YT) : Prop :=
  (((X 13 11) ≤ a3 → PX0_layTwins a1 X Y (fun X3 Y4 => Q X3 Y4)) ∧ (¬ (X 13 11) ≤ a3 → vp_in a3 32 ∧ ∀ w6 : Int32, w6 = (X 16 a3.toNatClampNeg) → PX9_has a1 w6 X Y (fun r8 X9 Y10 => ((r8 = 0 → ∀ w13 : Int32, w13 = a3 + 1 → I15 a1 a2 w13 X9 Y10) ∧ (¬ r8 = 0 → PX3_isShown a3 a2 X9 Y10 (fun r15 X16 Y17 => ((¬ r15 = 0 → ∀ w20 : Int32, w20 = a3 + 1 → I15 a1 a2 w20 X16 Y17) ∧ (r15 = 0 → vp_in a3 32 ∧ PX0_noteSlot (X16 20 a3.toNatClampNeg) X16 Y17 (fun X23 Y24 => vp_in a3 32 ∧ vp_in w6 8 ∧ PX6_add w6 ((X23 36 a3.toNatClampNeg) &&& ((X23 37 w6.toNatClampNeg) ^^^ (-1))) X23 Y24 (fun X27 Y28 => ∀ w30 : Int32, w30 = a3 + 1 → I15 a1 a2 w30 X27 Y28))))))))))
def BX0_lay_s (I15 : Int32 → Int32 → Int32 → XT → YT → Prop) (Q : XT → YT → Prop) (p0 : Int32) (p1 : Int32) (X : XT) (Y : YT) : Prop :=
  PX0_shutOutByShown p1 X Y (fun X2 Y3 => I15 p0 p1 0 (sX X2 31 3 0) Y3)
def PX0_lay (p0 : Int32) (p1 : Int32) (X : XT) (Y : YT) (Q : XT → YT → Prop) : Prop := ∀ (I15 : Int32 → Int32 → Int32 → XT → YT → Prop), (∀ (a1 : Int32) (a2 : Int32) (a3 : Int32) (X : XT) (Y : YT), BX0_lay_15 I15 Q a1 a2 a3 X Y → I15 a1 a2 a3 X Y) → BX0_lay_s I15 Q p0 p1 X Y
set_option maxHeartbeats 4000000 in
set_option maxRecDepth 100000 in
theorem kX0_lay_15 {Γ : Cxt} {Q : XT → YT → Prop} (O : Ok Γ RX0 cX0_lay 5 { frames := 3, cells := 0, slots := 0, locals := 66 }) (r : Ret Γ none (qV Q)) {I15 : Int32 → Int32 → Int32 → XT → YT → Prop} (e15 : ∀ (a1 : Int32) (a2 : Int32) (a3 : Int32) (X : XT) (Y : YT), I15 a1 a2 a3 X Y → V Γ 15 [(0, .ref 35), (1, .int a1), (2, .int a2), (3, .int a3)] [] X Y) {a1 : Int32} {a2 : Int32} {a3 : Int32} {X : XT} {Y : YT} (h : BX0_lay_15 I15 Q a1 a2 a3 X Y) : V Γ 15 [(0, .ref 35), (1, .int a1), (2, .int a2), (3, .int a3)] [] X Y := by
  refine v_iload_n O dX0_lay_15 rfl 3 rfl ?_
  refine v_aload_n O dX0_lay_16 rfl 0 rfl ?_
  refine v_get O dX0_lay_17 fo_X0_25 sh_35 rfl rfl ?_
  refine v_get O dX0_lay_20 fo_X0_70 sh_13 rfl rfl ?_
  refine v_icmp_ge (tgt := 102) O dX0_lay_23 (by decide) (fun g1 => ?_) (fun g1 => ?_)
  · refine v_aload_n O dX0_lay_102 rfl 0 rfl ?_
    refine v_iload_n O dX0_lay_103 rfl 1 rfl ?_
    refine v_callV (rm' := { frames := 2, cells := 0, slots := 0, locals := 43 }) (As := [.int a1]) (st := []) O dX0_lay_104 ci_X0_layTwins ml_X0_103 mi_X0_layTwins sh_35 rfl ⟨rfl, rfl, (by decide), (by decide)⟩ rfl (Nat.le_of_ble_eq_true rfl) rfl (mX0_layTwins (h.1 g1)) (k_V (fun X3 Y4 h5 => ?_))
    exact v_vret O r dX0_lay_107 ⟨rfl, h5⟩
  · refine v_aload_n O dX0_lay_26 rfl 0 rfl ?_
    refine v_get O dX0_lay_27 fo_X0_25 sh_35 rfl rfl ?_
    refine v_get O dX0_lay_30 fo_X0_44 sh_13 rfl rfl ?_
    refine v_iload_n O dX0_lay_33 rfl 3 rfl ?_
    refine v_iald O dX0_lay_34 sh_16 (h.2 g1).1 ?_
    refine v_topi (fun w6 hw7 => ?_)
    refine v_istore (lv' := [(4, .int w6), (0, .ref 35), (1, .int a1), (2, .int a2), (3, .int a3)]) O dX0_lay_35 (by decide) rfl ?_
    refine v_iload_n O dX0_lay_37 rfl 2 rfl ?_
    refine v_iload O dX0_lay_38 0 rfl ?_
    refine v_callN (rm' := { frames := 0, cells := 0, slots := 0, locals := 0 }) (As := [.int a1, .int w6]) (st := []) O dX0_lay_40 ci_X9_has ml_X0_77 ms_X9_has ⟨rfl, rfl, (by decide), (by decide)⟩ rfl (Nat.le_of_ble_eq_true rfl) rfl (mX9_has ((h.2 g1).2 w6 hw7)) (k_I (fun r8 X9 Y10 h11 => ?_))
    refine v_if_eq (tgt := 96) O dX0_lay_43 (by decide) (fun g12 => ?_) (fun g12 => ?_)
    · obtain ⟨w13, hw14⟩ : ∃ y : Int32, y = a3 + 1 := ⟨_, rfl⟩
      refine v_iinc (v := w13) (j := 4) O dX0_lay_96 rfl (by rw [hw14]; exact congrArg _ kc_1) (by decide) (lv' := [(3, .int w13), (4, .int w6), (0, .ref 35), (1, .int a1), (2, .int a2)]) rfl ?_
      refine v_goto O dX0_lay_99 (tgt := 15) (by decide) ?_
      exact v_loc [2, 3, 4, 0] rfl (e15 a1 a2 w13 X9 Y10 ((h11.1 g12) w13 hw14))
    · refine v_aload_n O dX0_lay_46 rfl 1 rfl ?_
      refine v_get O dX0_lay_47 fo_X0_25 sh_35 rfl rfl ?_
      refine v_iload_n O dX0_lay_50 rfl 4 rfl ?_
      refine v_iload_n O dX0_lay_51 rfl 3 rfl ?_
      refine v_callV (rm' := { frames := 1, cells := 0, slots := 0, locals := 21 }) (As := [.int a3, .int a2]) (st := []) O dX0_lay_52 ci_X3_isShown ml_X0_81 mi_X3_isShown sh_13 rfl ⟨rfl, rfl, (by decide), (by decide)⟩ rfl (Nat.le_of_ble_eq_true rfl) rfl (mX3_isShown (h11.2 g12)) (k_I (fun r15 X16 Y17 h18 => ?_))
      refine v_if_ne (tgt := 96) O dX0_lay_55 (by decide) (fun g19 => ?_) (fun g19 => ?_)
      · obtain ⟨w20, hw21⟩ : ∃ y : Int32, y = a3 + 1 := ⟨_, rfl⟩
        refine v_iinc (v := w20) (j := 4) O dX0_lay_96 rfl (by rw [hw21]; exact congrArg _ kc_1) (by decide) (lv' := [(3, .int w20), (4, .int w6), (0, .ref 35), (1, .int a1), (2, .int a2)]) rfl ?_
        refine v_goto O dX0_lay_99 (tgt := 15) (by decide) ?_
        exact v_loc [2, 3, 4, 0] rfl (e15 a1 a2 w20 X16 Y17 ((h18.1 g19) w20 hw21))
      · refine v_aload_n O dX0_lay_58 rfl 1 rfl ?_
        refine v_aload_n O dX0_lay_59 rfl 1 rfl ?_
        refine v_get O dX0_lay_60 fo_X0_25 sh_35 rfl rfl ?_
        refine v_get O dX0_lay_63 fo_X0_93 sh_13 rfl rfl ?_
        refine v_iload_n O dX0_lay_66 rfl 4 rfl ?_
        refine v_iald O dX0_lay_67 sh_20 (h18.2 g19).1 ?_
        refine v_callV (rm' := { frames := 0, cells := 0, slots := 0, locals := 0 }) (As := [.int (X16 20 a3.toNatClampNeg)]) (st := []) O dX0_lay_68 ci_X0_noteSlot ml_X0_96 mi_X0_noteSlot sh_35 rfl ⟨rfl, rfl, (by decide), (by decide)⟩ rfl (Nat.le_of_ble_eq_true rfl) rfl (mX0_noteSlot (h18.2 g19).2) (k_V (fun X23 Y24 h25 => ?_))
        refine v_aload_n O dX0_lay_71 rfl 1 rfl ?_
        refine v_get O dX0_lay_72 fo_X0_29 sh_35 rfl rfl ?_
        refine v_iload O dX0_lay_75 0 rfl ?_
        refine v_aload_n O dX0_lay_77 rfl 1 rfl ?_
        refine v_get O dX0_lay_78 fo_X0_9 sh_35 rfl rfl ?_
        refine v_iload_n O dX0_lay_81 rfl 4 rfl ?_
        refine v_iald O dX0_lay_82 sh_36 h25.1 ?_
        refine v_aload_n O dX0_lay_83 rfl 1 rfl ?_
        refine v_get O dX0_lay_84 fo_X0_15 sh_35 rfl rfl ?_
        refine v_iload O dX0_lay_87 0 rfl ?_
        refine v_iald O dX0_lay_89 sh_37 h25.2.1 ?_
        refine v_iconst O dX0_lay_90 kc_m1 ?_
        refine v_ixor O dX0_lay_91 ?_
        refine v_iand O dX0_lay_92 ?_
        refine v_callV (rm' := { frames := 0, cells := 0, slots := 0, locals := 0 }) (As := [.int w6, .int ((X23 36 a3.toNatClampNeg) &&& ((X23 37 w6.toNatClampNeg) ^^^ (-1)))]) (st := []) O dX0_lay_93 ci_X6_add ml_X0_99 mi_X6_add sh_31 rfl ⟨rfl, rfl, (by decide), (by decide)⟩ rfl (Nat.le_of_ble_eq_true rfl) rfl (mX6_add h25.2.2) (k_V (fun X27 Y28 h29 => ?_))
        obtain ⟨w30, hw31⟩ : ∃ y : Int32, y = a3 + 1 := ⟨_, rfl⟩
        refine v_iinc (v := w30) (j := 4) O dX0_lay_96 rfl (by rw [hw31]; exact congrArg _ kc_1) (by decide) (lv' := [(3, .int w30), (4, .int w6), (0, .ref 35), (1, .int a1), (2, .int a2)]) rfl ?_
        refine v_goto O dX0_lay_99 (tgt := 15) (by decide) ?_
        exact v_loc [2, 3, 4, 0] rfl (e15 a1 a2 w30 X27 Y28 (h29 w30 hw31))
set_option maxHeartbeats 4000000 in
set_option maxRecDepth 100000 in
theorem kX0_lay_s {Γ : Cxt} {Q : XT → YT → Prop} (O : Ok Γ RX0 cX0_lay 5 { frames := 3, cells := 0, slots := 0, locals := 66 }) (r : Ret Γ none (qV Q)) {I15 : Int32 → Int32 → Int32 → XT → YT → Prop} (e15 : ∀ (a1 : Int32) (a2 : Int32) (a3 : Int32) (X : XT) (Y : YT), I15 a1 a2 a3 X Y → V Γ 15 [(0, .ref 35), (1, .int a1), (2, .int a2), (3, .int a3)] [] X Y) {p0 : Int32} {p1 : Int32} {X : XT} {Y : YT} (h : BX0_lay_s I15 Q p0 p1 X Y) : V Γ 0 [(0, .ref 35), (1, .int p0), (2, .int p1)] [] X Y := by
  refine v_aload_n O dX0_lay_0 rfl 0 rfl ?_
  refine v_iload_n O dX0_lay_1 rfl 2 rfl ?_
  refine v_callV (rm' := { frames := 2, cells := 0, slots := 0, locals := 44 }) (As := [.int p1]) (st := []) O dX0_lay_2 ci_X0_shutOutByShown ml_X0_84 mi_X0_shutOutByShown sh_35 rfl ⟨rfl, rfl, (by decide), (by decide)⟩ rfl (Nat.le_of_ble_eq_true rfl) rfl (mX0_shutOutByShown h) (k_V (fun X2 Y3 h4 => ?_))
  refine v_aload_n O dX0_lay_5 rfl 0 rfl ?_
  refine v_get O dX0_lay_6 fo_X0_29 sh_35 rfl rfl ?_
  refine v_iconst O dX0_lay_9 kc_0 ?_
  refine v_putI O dX0_lay_10 fo_X0_88 fp_6_3 sh_31 rfl rfl rfl ?_
  refine v_iconst O dX0_lay_13 kc_0 ?_
  refine v_istore_n (lv' := [(3, .int 0), (0, .ref 35), (1, .int p0), (2, .int p1)]) O dX0_lay_14 rfl (by decide) rfl ?_
  exact v_loc [1, 2, 3, 0] rfl (e15 p0 p1 0 (sX X2 31 3 0) Y3 h4)
set_option maxRecDepth 100000 in
theorem mX0_lay {Γ : Cxt} {p0 : Int32} {p1 : Int32} {X : XT} {Y : YT} {Q : XT → YT → Prop} (h : PX0_lay p0 p1 X Y Q) : MT Γ yX0_lay (.code yX0_lay cX0_lay 5 none :: wl) { frames := 3, cells := 0, slots := 0, locals := 66 } [.ref 35, .int p0, .int p1] X Y (qV Q) :=
  mt_of (by decide) (Nat.le_of_ble_eq_true rfl) (fun Γ _ O r => kX0_lay_s O r (fun _ _ _ _ _ g => g) (h (fun a1 a2 a3 X Y => V Γ 15 [(0, .ref 35), (1, .int a1), (2, .int a2), (3, .int a3)] [] X Y) (fun _ _ _ _ _ g => kX0_lay_15 O r (fun _ _ _ _ _ g => g) g)))
