theorem dX3_pair_0 : decode cX3_pair 0 = .ok (.aload_n 0, 1) := by decide +kernel
theorem dX3_pair_1 : decode cX3_pair 1 = .ok (.getfield 39, 3) := by decide +kernel
theorem dX3_pair_4 : decode cX3_pair 4 = .ok (.iload_n 1, 1) := by decide +kernel
theorem dX3_pair_5 : decode cX3_pair 5 = .ok (.dup2, 1) := by decide +kernel
theorem dX3_pair_6 : decode cX3_pair 6 = .ok (.iaload, 1) := by decide +kernel
theorem dX3_pair_7 : decode cX3_pair 7 = .ok (.iconst 1, 1) := by decide +kernel
theorem dX3_pair_8 : decode cX3_pair 8 = .ok (.iload_n 2, 1) := by decide +kernel
theorem dX3_pair_9 : decode cX3_pair 9 = .ok (.ishl, 1) := by decide +kernel
theorem dX3_pair_10 : decode cX3_pair 10 = .ok (.ior, 1) := by decide +kernel
theorem dX3_pair_11 : decode cX3_pair 11 = .ok (.iastore, 1) := by decide +kernel
theorem dX3_pair_12 : decode cX3_pair 12 = .ok (.aload_n 0, 1) := by decide +kernel
theorem dX3_pair_13 : decode cX3_pair 13 = .ok (.getfield 39, 3) := by decide +kernel
theorem dX3_pair_16 : decode cX3_pair 16 = .ok (.iload_n 2, 1) := by decide +kernel
theorem dX3_pair_17 : decode cX3_pair 17 = .ok (.dup2, 1) := by decide +kernel
theorem dX3_pair_18 : decode cX3_pair 18 = .ok (.iaload, 1) := by decide +kernel
theorem dX3_pair_19 : decode cX3_pair 19 = .ok (.iconst 1, 1) := by decide +kernel
theorem dX3_pair_20 : decode cX3_pair 20 = .ok (.iload_n 1, 1) := by decide +kernel
theorem dX3_pair_21 : decode cX3_pair 21 = .ok (.ishl, 1) := by decide +kernel
theorem dX3_pair_22 : decode cX3_pair 22 = .ok (.ior, 1) := by decide +kernel
theorem dX3_pair_23 : decode cX3_pair 23 = .ok (.iastore, 1) := by decide +kernel
theorem dX3_pair_24 : decode cX3_pair 24 = .ok (.aload_n 0, 1) := by decide +kernel
theorem dX3_pair_25 : decode cX3_pair 25 = .ok (.dup, 1) := by decide +kernel
theorem dX3_pair_26 : decode cX3_pair 26 = .ok (.getfield 55, 3) := by decide +kernel
theorem dX3_pair_29 : decode cX3_pair 29 = .ok (.iconst 1, 1) := by decide +kernel
theorem dX3_pair_30 : decode cX3_pair 30 = .ok (.iadd, 1) := by decide +kernel
theorem dX3_pair_31 : decode cX3_pair 31 = .ok (.putfield 55, 3) := by decide +kernel
theorem dX3_pair_34 : decode cX3_pair 34 = .ok (.return_, 1) := by decide +kernel
def BX3_pair_s (Q : XT → YT → Prop) (p0 : Int32) (p1 : Int32) (X : XT) (Y : YT) : Prop :=
  vp_in p0 10 ∧ vp_in p0 10 ∧ ∀ X1 : XT, X1 = sX X 23 p0.toNatClampNeg ((X 23 p0.toNatClampNeg) ||| (1 <<< (p1 &&& 31))) → vp_in p1 10 ∧ vp_in p1 10 ∧ ∀ X3 : XT, X3 = sX X1 23 p1.toNatClampNeg ((X1 23 p1.toNatClampNeg) ||| (1 <<< (p0 &&& 31))) → Q (sX X3 13 14 ((X3 13 14) + 1)) Y
def PX3_pair (p0 : Int32) (p1 : Int32) (X : XT) (Y : YT) (Q : XT → YT → Prop) : Prop :=  BX3_pair_s Q p0 p1 X Y
set_option maxHeartbeats 4000000 in
set_option maxRecDepth 100000 in
theorem kX3_pair_s {Γ : Cxt} {Q : XT → YT → Prop} (O : Ok Γ RX3 cX3_pair 3 { frames := 0, cells := 0, slots := 0, locals := 0 }) (r : Ret Γ none (qV Q)) {p0 : Int32} {p1 : Int32} {X : XT} {Y : YT} (h : BX3_pair_s Q p0 p1 X Y) : V Γ 0 [(0, .ref 13), (1, .int p0), (2, .int p1)] [] X Y := by
  refine v_aload_n O dX3_pair_0 rfl 0 rfl ?_
  refine v_get O dX3_pair_1 fo_X3_39 sh_13 rfl rfl ?_
  refine v_iload_n O dX3_pair_4 rfl 1 rfl ?_
  refine v_dup2 O dX3_pair_5 rfl rfl ?_
  refine v_iald O dX3_pair_6 sh_23 h.1 ?_
  refine v_iconst O dX3_pair_7 kc_1 ?_
  refine v_iload_n O dX3_pair_8 rfl 2 rfl ?_
  refine v_ishl O dX3_pair_9 ?_
  refine v_ior O dX3_pair_10 ?_
  refine v_iast O dX3_pair_11 sh_23 h.2.1 ?_
  refine v_nmX (fun X1 hX2 => ?_)
  refine v_aload_n O dX3_pair_12 rfl 0 rfl ?_
  refine v_get O dX3_pair_13 fo_X3_39 sh_13 rfl rfl ?_
  refine v_iload_n O dX3_pair_16 rfl 2 rfl ?_
  refine v_dup2 O dX3_pair_17 rfl rfl ?_
  refine v_iald O dX3_pair_18 sh_23 (h.2.2 X1 hX2).1 ?_
  refine v_iconst O dX3_pair_19 kc_1 ?_
  refine v_iload_n O dX3_pair_20 rfl 1 rfl ?_
  refine v_ishl O dX3_pair_21 ?_
  refine v_ior O dX3_pair_22 ?_
  refine v_iast O dX3_pair_23 sh_23 (h.2.2 X1 hX2).2.1 ?_
  refine v_nmX (fun X3 hX4 => ?_)
  refine v_aload_n O dX3_pair_24 rfl 0 rfl ?_
  refine v_dup O dX3_pair_25 rfl ?_
  refine v_get O dX3_pair_26 fo_X3_55 sh_13 rfl rfl ?_
  refine v_iconst O dX3_pair_29 kc_1 ?_
  refine v_iadd O dX3_pair_30 ?_
  refine v_putI O dX3_pair_31 fo_X3_55 fp_3_14 sh_13 rfl rfl rfl ?_
  exact v_vret O r dX3_pair_34 ⟨rfl, ((h.2.2 X1 hX2).2.2 X3 hX4)⟩
set_option maxRecDepth 100000 in
theorem mX3_pair {Γ : Cxt} {p0 : Int32} {p1 : Int32} {X : XT} {Y : YT} {Q : XT → YT → Prop} (h : PX3_pair p0 p1 X Y Q) : MT Γ yX3_pair (.code yX3_pair cX3_pair 3 none :: wl) { frames := 0, cells := 0, slots := 0, locals := 0 } [.ref 13, .int p0, .int p1] X Y (qV Q) :=
  mt_of (by decide) (Nat.le_of_ble_eq_true rfl) (fun Γ _ O r => kX3_pair_s O r  (h ))
theorem dX4_learn_0 : decode cX4_learn 0 = .ok (.aload_n 0, 1) := by decide +kernel
theorem dX4_learn_1 : decode cX4_learn 1 = .ok (.getfield 15, 3) := by decide +kernel
theorem dX4_learn_4 : decode cX4_learn 4 = .ok (.iload_n 1, 1) := by decide +kernel
theorem dX4_learn_5 : decode cX4_learn 5 = .ok (.bipush 10, 2) := by decide +kernel
theorem dX4_learn_7 : decode cX4_learn 7 = .ok (.imul, 1) := by decide +kernel
theorem dX4_learn_8 : decode cX4_learn 8 = .ok (.iload_n 2, 1) := by decide +kernel
theorem dX4_learn_9 : decode cX4_learn 9 = .ok (.iadd, 1) := by decide +kernel
theorem dX4_learn_10 : decode cX4_learn 10 = .ok (.iaload, 1) := by decide +kernel
theorem dX4_learn_11 : decode cX4_learn 11 = .ok (.istore 4, 2) := by decide +kernel
theorem dX4_learn_13 : decode cX4_learn 13 = .ok (.aload_n 0, 1) := by decide +kernel
theorem dX4_learn_14 : decode cX4_learn 14 = .ok (.getfield 15, 3) := by decide +kernel
theorem dX4_learn_17 : decode cX4_learn 17 = .ok (.iload_n 1, 1) := by decide +kernel
theorem dX4_learn_18 : decode cX4_learn 18 = .ok (.bipush 10, 2) := by decide +kernel
theorem dX4_learn_20 : decode cX4_learn 20 = .ok (.imul, 1) := by decide +kernel
theorem dX4_learn_21 : decode cX4_learn 21 = .ok (.iload_n 2, 1) := by decide +kernel
theorem dX4_learn_22 : decode cX4_learn 22 = .ok (.iadd, 1) := by decide +kernel
theorem dX4_learn_23 : decode cX4_learn 23 = .ok (.iload_n 3, 1) := by decide +kernel
theorem dX4_learn_24 : decode cX4_learn 24 = .ok (.iastore, 1) := by decide +kernel
theorem dX4_learn_25 : decode cX4_learn 25 = .ok (.iload 4, 2) := by decide +kernel
theorem dX4_learn_27 : decode cX4_learn 27 = .ok (.ireturn, 1) := by decide +kernel
def BX4_learn_s (Q : Int32 → XT → YT → Prop) (p0 : Int32) (p1 : Int32) (p2 : Int32) (X : XT) (Y : YT) : Prop :=
  vp_in ((p0 * 10) + p1) 40 ∧ ∀ w1 : Int32, w1 = (X 30 ((p0 * 10) + p1).toNatClampNeg) → vp_in ((p0 * 10) + p1) 40 ∧ ∀ X3 : XT, X3 = sX X 30 ((p0 * 10) + p1).toNatClampNeg p2 → Q w1 X3 Y
def PX4_learn (p0 : Int32) (p1 : Int32) (p2 : Int32) (X : XT) (Y : YT) (Q : Int32 → XT → YT → Prop) : Prop :=  BX4_learn_s Q p0 p1 p2 X Y
set_option maxHeartbeats 4000000 in
set_option maxRecDepth 100000 in
theorem kX4_learn_s {Γ : Cxt} {Q : Int32 → XT → YT → Prop} (O : Ok Γ RX4 cX4_learn 5 { frames := 0, cells := 0, slots := 0, locals := 0 }) (r : Ret Γ (some .int) (qI Q)) {p0 : Int32} {p1 : Int32} {p2 : Int32} {X : XT} {Y : YT} (h : BX4_learn_s Q p0 p1 p2 X Y) : V Γ 0 [(0, .ref 28), (1, .int p0), (2, .int p1), (3, .int p2)] [] X Y := by
  refine v_aload_n O dX4_learn_0 rfl 0 rfl ?_
  refine v_get O dX4_learn_1 fo_X4_15 sh_28 rfl rfl ?_
  refine v_iload_n O dX4_learn_4 rfl 1 rfl ?_
  refine v_bipush O dX4_learn_5 kb_10 ?_
  refine v_imul O dX4_learn_7 ?_
  refine v_iload_n O dX4_learn_8 rfl 2 rfl ?_
  refine v_iadd O dX4_learn_9 ?_
  refine v_iald O dX4_learn_10 sh_30 h.1 ?_
  refine v_topi (fun w1 hw2 => ?_)
  refine v_istore (lv' := [(4, .int w1), (0, .ref 28), (1, .int p0), (2, .int p1), (3, .int p2)]) O dX4_learn_11 (by decide) rfl ?_
  refine v_aload_n O dX4_learn_13 rfl 1 rfl ?_
  refine v_get O dX4_learn_14 fo_X4_15 sh_28 rfl rfl ?_
  refine v_iload_n O dX4_learn_17 rfl 2 rfl ?_
  refine v_bipush O dX4_learn_18 kb_10 ?_
  refine v_imul O dX4_learn_20 ?_
  refine v_iload_n O dX4_learn_21 rfl 3 rfl ?_
  refine v_iadd O dX4_learn_22 ?_
  refine v_iload_n O dX4_learn_23 rfl 4 rfl ?_
  refine v_iast O dX4_learn_24 sh_30 (h.2 w1 hw2).1 ?_
  refine v_nmX (fun X3 hX4 => ?_)
  refine v_iload O dX4_learn_25 0 rfl ?_
  exact v_iret O r dX4_learn_27 ⟨_, rfl, ((h.2 w1 hw2).2 X3 hX4)⟩
set_option maxRecDepth 100000 in
theorem mX4_learn {Γ : Cxt} {p0 : Int32} {p1 : Int32} {p2 : Int32} {X : XT} {Y : YT} {Q : Int32 → XT → YT → Prop} (h : PX4_learn p0 p1 p2 X Y Q) : MT Γ yX4_learn (.code yX4_learn cX4_learn 5 (some .int) :: wl) { frames := 0, cells := 0, slots := 0, locals := 0 } [.ref 28, .int p0, .int p1, .int p2] X Y (qI Q) :=
  mt_of (by decide) (Nat.le_of_ble_eq_true rfl) (fun Γ _ O r => kX4_learn_s O r  (h ))
theorem dX4_leftBy_0 : decode cX4_leftBy 0 = .ok (.aload_n 0, 1) := by decide +kernel
theorem dX4_leftBy_1 : decode cX4_leftBy 1 = .ok (.getfield 15, 3) := by decide +kernel
theorem dX4_leftBy_4 : decode cX4_leftBy 4 = .ok (.iload_n 1, 1) := by decide +kernel
theorem dX4_leftBy_5 : decode cX4_leftBy 5 = .ok (.bipush 10, 2) := by decide +kernel
theorem dX4_leftBy_7 : decode cX4_leftBy 7 = .ok (.imul, 1) := by decide +kernel
theorem dX4_leftBy_8 : decode cX4_leftBy 8 = .ok (.iload_n 2, 1) := by decide +kernel
theorem dX4_leftBy_9 : decode cX4_leftBy 9 = .ok (.iadd, 1) := by decide +kernel
theorem dX4_leftBy_10 : decode cX4_leftBy 10 = .ok (.iaload, 1) := by decide +kernel
theorem dX4_leftBy_11 : decode cX4_leftBy 11 = .ok (.istore_n 3, 1) := by decide +kernel
theorem dX4_leftBy_12 : decode cX4_leftBy 12 = .ok (.iload_n 3, 1) := by decide +kernel
theorem dX4_leftBy_13 : decode cX4_leftBy 13 = .ok (.iconst (-1), 1) := by decide +kernel
theorem dX4_leftBy_14 : decode cX4_leftBy 14 = .ok (.if_icmp .ne 11, 3) := by decide +kernel
theorem dX4_leftBy_17 : decode cX4_leftBy 17 = .ok (.bipush 10, 2) := by decide +kernel
theorem dX4_leftBy_19 : decode cX4_leftBy 19 = .ok (.invokestatic 24, 3) := by decide +kernel
theorem dX4_leftBy_22 : decode cX4_leftBy 22 = .ok (.goto 6, 3) := by decide +kernel
theorem dX4_leftBy_25 : decode cX4_leftBy 25 = .ok (.iconst 1, 1) := by decide +kernel
theorem dX4_leftBy_26 : decode cX4_leftBy 26 = .ok (.iload_n 3, 1) := by decide +kernel
theorem dX4_leftBy_27 : decode cX4_leftBy 27 = .ok (.ishl, 1) := by decide +kernel
theorem dX4_leftBy_28 : decode cX4_leftBy 28 = .ok (.aload_n 0, 1) := by decide +kernel
theorem dX4_leftBy_29 : decode cX4_leftBy 29 = .ok (.getfield 9, 3) := by decide +kernel
theorem dX4_leftBy_32 : decode cX4_leftBy 32 = .ok (.iload_n 1, 1) := by decide +kernel
theorem dX4_leftBy_33 : decode cX4_leftBy 33 = .ok (.iaload, 1) := by decide +kernel
theorem dX4_leftBy_34 : decode cX4_leftBy 34 = .ok (.iconst (-1), 1) := by decide +kernel
theorem dX4_leftBy_35 : decode cX4_leftBy 35 = .ok (.ixor, 1) := by decide +kernel
theorem dX4_leftBy_36 : decode cX4_leftBy 36 = .ok (.iand, 1) := by decide +kernel
theorem dX4_leftBy_37 : decode cX4_leftBy 37 = .ok (.ireturn, 1) := by decide +kernel
def BX4_leftBy_s (Q : Int32 → XT → YT → Prop) (p0 : Int32) (p1 : Int32) (X : XT) (Y : YT) : Prop :=
  vp_in ((p0 * 10) + p1) 40 ∧ ∀ w1 : Int32, w1 = (X 30 ((p0 * 10) + p1).toNatClampNeg) → ((¬ w1 = (-1) → vp_in p0 4 ∧ Q ((1 <<< (w1 &&& 31)) &&& ((X 29 p0.toNatClampNeg) ^^^ (-1))) X Y) ∧ (w1 = (-1) → PX9_allBelow 10 X Y (fun r4 X5 Y6 => vp_in p0 4 ∧ Q (r4 &&& ((X5 29 p0.toNatClampNeg) ^^^ (-1))) X5 Y6)))
def PX4_leftBy (p0 : Int32) (p1 : Int32) (X : XT) (Y : YT) (Q : Int32 → XT → YT → Prop) : Prop :=  BX4_leftBy_s Q p0 p1 X Y
set_option maxHeartbeats 4000000 in
set_option maxRecDepth 100000 in
theorem kX4_leftBy_s {Γ : Cxt} {Q : Int32 → XT → YT → Prop} (O : Ok Γ RX4 cX4_leftBy 4 { frames := 1, cells := 0, slots := 0, locals := 20 }) (r : Ret Γ (some .int) (qI Q)) {p0 : Int32} {p1 : Int32} {X : XT} {Y : YT} (h : BX4_leftBy_s Q p0 p1 X Y) : V Γ 0 [(0, .ref 28), (1, .int p0), (2, .int p1)] [] X Y := by
  refine v_aload_n O dX4_leftBy_0 rfl 0 rfl ?_
  refine v_get O dX4_leftBy_1 fo_X4_15 sh_28 rfl rfl ?_
  refine v_iload_n O dX4_leftBy_4 rfl 1 rfl ?_
  refine v_bipush O dX4_leftBy_5 kb_10 ?_
  refine v_imul O dX4_leftBy_7 ?_
  refine v_iload_n O dX4_leftBy_8 rfl 2 rfl ?_
  refine v_iadd O dX4_leftBy_9 ?_
  refine v_iald O dX4_leftBy_10 sh_30 h.1 ?_
  refine v_topi (fun w1 hw2 => ?_)
  refine v_istore_n (lv' := [(3, .int w1), (0, .ref 28), (1, .int p0), (2, .int p1)]) O dX4_leftBy_11 rfl (by decide) rfl ?_
  refine v_iload_n O dX4_leftBy_12 rfl 0 rfl ?_
  refine v_iconst O dX4_leftBy_13 kc_m1 ?_
  refine v_icmp_ne (tgt := 25) O dX4_leftBy_14 (by decide) (fun g3 => ?_) (fun g3 => ?_)
  · refine v_iconst O dX4_leftBy_25 kc_1 ?_
    refine v_iload_n O dX4_leftBy_26 rfl 0 rfl ?_
    refine v_ishl O dX4_leftBy_27 ?_
    refine v_aload_n O dX4_leftBy_28 rfl 1 rfl ?_
    refine v_get O dX4_leftBy_29 fo_X4_9 sh_28 rfl rfl ?_
    refine v_iload_n O dX4_leftBy_32 rfl 2 rfl ?_
    refine v_iald O dX4_leftBy_33 sh_29 ((h.2 w1 hw2).1 g3).1 ?_
    refine v_iconst O dX4_leftBy_34 kc_m1 ?_
    refine v_ixor O dX4_leftBy_35 ?_
    refine v_iand O dX4_leftBy_36 ?_
    exact v_iret O r dX4_leftBy_37 ⟨_, rfl, ((h.2 w1 hw2).1 g3).2⟩
  · refine v_bipush O dX4_leftBy_17 kb_10 ?_
    refine v_callN (rm' := { frames := 0, cells := 0, slots := 0, locals := 0 }) (As := [.int 10]) (st := []) O dX4_leftBy_19 ci_X9_allBelow ml_X4_24 ms_X9_allBelow ⟨rfl, rfl, (by decide), (by decide)⟩ rfl (Nat.le_of_ble_eq_true rfl) rfl (mX9_allBelow ((h.2 w1 hw2).2 g3)) (k_I (fun r4 X5 Y6 h7 => ?_))
    refine v_goto O dX4_leftBy_22 (tgt := 28) (by decide) ?_
    refine v_aload_n O dX4_leftBy_28 rfl 1 rfl ?_
    refine v_get O dX4_leftBy_29 fo_X4_9 sh_28 rfl rfl ?_
    refine v_iload_n O dX4_leftBy_32 rfl 2 rfl ?_
    refine v_iald O dX4_leftBy_33 sh_29 h7.1 ?_
    refine v_iconst O dX4_leftBy_34 kc_m1 ?_
    refine v_ixor O dX4_leftBy_35 ?_
    refine v_iand O dX4_leftBy_36 ?_
    exact v_iret O r dX4_leftBy_37 ⟨_, rfl, h7.2⟩
set_option maxRecDepth 100000 in
theorem mX4_leftBy {Γ : Cxt} {p0 : Int32} {p1 : Int32} {X : XT} {Y : YT} {Q : Int32 → XT → YT → Prop} (h : PX4_leftBy p0 p1 X Y Q) : MT Γ yX4_leftBy (.code yX4_leftBy cX4_leftBy 4 (some .int) :: wl) { frames := 1, cells := 0, slots := 0, locals := 20 } [.ref 28, .int p0, .int p1] X Y (qI Q) :=
  mt_of (by decide) (Nat.le_of_ble_eq_true rfl) (fun Γ _ O r => kX4_leftBy_s O r  (h ))
theorem dX4_leave_0 : decode cX4_leave 0 = .ok (.bipush 10, 2) := by decide +kernel
theorem dX4_leave_2 : decode cX4_leave 2 = .ok (.invokestatic 24, 3) := by decide +kernel
theorem dX4_leave_5 : decode cX4_leave 5 = .ok (.istore_n 3, 1) := by decide +kernel
theorem dX4_leave_6 : decode cX4_leave 6 = .ok (.iconst 0, 1) := by decide +kernel
theorem dX4_leave_7 : decode cX4_leave 7 = .ok (.istore 4, 2) := by decide +kernel
theorem dX4_leave_9 : decode cX4_leave 9 = .ok (.iload 4, 2) := by decide +kernel
theorem dX4_leave_11 : decode cX4_leave 11 = .ok (.iconst 4, 1) := by decide +kernel
theorem dX4_leave_12 : decode cX4_leave 12 = .ok (.if_icmp .ge 28, 3) := by decide +kernel
theorem dX4_leave_15 : decode cX4_leave 15 = .ok (.iload_n 1, 1) := by decide +kernel
theorem dX4_leave_16 : decode cX4_leave 16 = .ok (.iload 4, 2) := by decide +kernel
theorem dX4_leave_18 : decode cX4_leave 18 = .ok (.invokestatic 28, 3) := by decide +kernel
theorem dX4_leave_21 : decode cX4_leave 21 = .ok (.ifCond .eq 13, 3) := by decide +kernel
theorem dX4_leave_24 : decode cX4_leave 24 = .ok (.iload_n 3, 1) := by decide +kernel
theorem dX4_leave_25 : decode cX4_leave 25 = .ok (.aload_n 0, 1) := by decide +kernel
theorem dX4_leave_26 : decode cX4_leave 26 = .ok (.iload 4, 2) := by decide +kernel
theorem dX4_leave_28 : decode cX4_leave 28 = .ok (.iload_n 2, 1) := by decide +kernel
theorem dX4_leave_29 : decode cX4_leave 29 = .ok (.invokevirtual 32, 3) := by decide +kernel
theorem dX4_leave_32 : decode cX4_leave 32 = .ok (.iand, 1) := by decide +kernel
theorem dX4_leave_33 : decode cX4_leave 33 = .ok (.istore_n 3, 1) := by decide +kernel
theorem dX4_leave_34 : decode cX4_leave 34 = .ok (.iinc 4 1, 3) := by decide +kernel
theorem dX4_leave_37 : decode cX4_leave 37 = .ok (.goto (-28), 3) := by decide +kernel
theorem dX4_leave_40 : decode cX4_leave 40 = .ok (.iload_n 3, 1) := by decide +kernel
theorem dX4_leave_41 : decode cX4_leave 41 = .ok (.ireturn, 1) := by decide +kernel
def BX4_leave_9 (I9 : Int32 → Int32 → Int32 → Int32 → XT → YT → Prop) (Q : Int32 → XT → YT → Prop) (a1 : Int32) (a2 : Int32) (a3 : Int32) (a4 : Int32) (X : XT) (Y : YT) : Prop :=
  ((4 ≤ a4 → Q a3 X Y) ∧ (¬ 4 ≤ a4 → PX9_has a1 a4 X Y (fun r2 X3 Y4 => ((r2 = 0 → ∀ w7 : Int32, w7 = a4 + 1 → I9 a1 a2 a3 w7 X3 Y4) ∧ (¬ r2 = 0 → PX4_leftBy a4 a2 X3 Y4 (fun r9 X10 Y11 => ∀ w13 : Int32, w13 = (a3 &&& r9) → ∀ w15 : Int32, w15 = a4 + 1 → I9 a1 a2 w13 w15 X10 Y11))))))
def BX4_leave_s (I9 : Int32 → Int32 → Int32 → Int32 → XT → YT → Prop) (Q : Int32 → XT → YT → Prop) (p0 : Int32) (p1 : Int32) (X : XT) (Y : YT) : Prop :=
  PX9_allBelow 10 X Y (fun r1 X2 Y3 => I9 p0 p1 r1 0 X2 Y3)
def PX4_leave (p0 : Int32) (p1 : Int32) (X : XT) (Y : YT) (Q : Int32 → XT → YT → Prop) : Prop := ∀ (I9 : Int32 → Int32 → Int32 → Int32 → XT → YT → Prop), (∀ (a1 : Int32) (a2 : Int32) (a3 : Int32) (a4 : Int32) (X : XT) (Y : YT), BX4_leave_9 I9 Q a1 a2 a3 a4 X Y → I9 a1 a2 a3 a4 X Y) → BX4_leave_s I9 Q p0 p1 X Y
set_option maxHeartbeats 4000000 in
set_option maxRecDepth 100000 in
theorem kX4_leave_9 {Γ : Cxt} {Q : Int32 → XT → YT → Prop} (O : Ok Γ RX4 cX4_leave 5 { frames := 2, cells := 0, slots := 0, locals := 43 }) (r : Ret Γ (some .int) (qI Q)) {I9 : Int32 → Int32 → Int32 → Int32 → XT → YT → Prop} (e9 : ∀ (a1 : Int32) (a2 : Int32) (a3 : Int32) (a4 : Int32) (X : XT) (Y : YT), I9 a1 a2 a3 a4 X Y → V Γ 9 [(0, .ref 28), (1, .int a1), (2, .int a2), (3, .int a3), (4, .int a4)] [] X Y) {a1 : Int32} {a2 : Int32} {a3 : Int32} {a4 : Int32} {X : XT} {Y : YT} (h : BX4_leave_9 I9 Q a1 a2 a3 a4 X Y) : V Γ 9 [(0, .ref 28), (1, .int a1), (2, .int a2), (3, .int a3), (4, .int a4)] [] X Y := by
  refine v_iload O dX4_leave_9 4 rfl ?_
  refine v_iconst O dX4_leave_11 kc_4 ?_
  refine v_icmp_ge (tgt := 40) O dX4_leave_12 (by decide) (fun g1 => ?_) (fun g1 => ?_)
  · refine v_iload_n O dX4_leave_40 rfl 3 rfl ?_
    exact v_iret O r dX4_leave_41 ⟨_, rfl, (h.1 g1)⟩
  · refine v_iload_n O dX4_leave_15 rfl 1 rfl ?_
    refine v_iload O dX4_leave_16 4 rfl ?_
    refine v_callN (rm' := { frames := 0, cells := 0, slots := 0, locals := 0 }) (As := [.int a1, .int a4]) (st := []) O dX4_leave_18 ci_X9_has ml_X4_28 ms_X9_has ⟨rfl, rfl, (by decide), (by decide)⟩ rfl (Nat.le_of_ble_eq_true rfl) rfl (mX9_has (h.2 g1)) (k_I (fun r2 X3 Y4 h5 => ?_))
    refine v_if_eq (tgt := 34) O dX4_leave_21 (by decide) (fun g6 => ?_) (fun g6 => ?_)
    · obtain ⟨w7, hw8⟩ : ∃ y : Int32, y = a4 + 1 := ⟨_, rfl⟩
      refine v_iinc (v := w7) (j := 4) O dX4_leave_34 rfl (by rw [hw8]; exact congrArg _ kc_1) (by decide) (lv' := [(4, .int w7), (0, .ref 28), (1, .int a1), (2, .int a2), (3, .int a3)]) rfl ?_
      refine v_goto O dX4_leave_37 (tgt := 9) (by decide) ?_
      exact v_loc [1, 2, 3, 4, 0] rfl (e9 a1 a2 a3 w7 X3 Y4 ((h5.1 g6) w7 hw8))
    · refine v_iload_n O dX4_leave_24 rfl 3 rfl ?_
      refine v_aload_n O dX4_leave_25 rfl 0 rfl ?_
      refine v_iload O dX4_leave_26 4 rfl ?_
      refine v_iload_n O dX4_leave_28 rfl 2 rfl ?_
      refine v_callV (rm' := { frames := 1, cells := 0, slots := 0, locals := 20 }) (As := [.int a4, .int a2]) (st := [.int a3]) O dX4_leave_29 ci_X4_leftBy ml_X4_32 mi_X4_leftBy sh_28 rfl ⟨rfl, rfl, (by decide), (by decide)⟩ rfl (Nat.le_of_ble_eq_true rfl) rfl (mX4_leftBy (h5.2 g6)) (k_I (fun r9 X10 Y11 h12 => ?_))
      refine v_iand O dX4_leave_32 ?_
      refine v_topi (fun w13 hw14 => ?_)
      refine v_istore_n (lv' := [(3, .int w13), (0, .ref 28), (1, .int a1), (2, .int a2), (4, .int a4)]) O dX4_leave_33 rfl (by decide) rfl ?_
      obtain ⟨w15, hw16⟩ : ∃ y : Int32, y = a4 + 1 := ⟨_, rfl⟩
      refine v_iinc (v := w15) (j := 4) O dX4_leave_34 rfl (by rw [hw16]; exact congrArg _ kc_1) (by decide) (lv' := [(4, .int w15), (3, .int w13), (0, .ref 28), (1, .int a1), (2, .int a2)]) rfl ?_
      refine v_goto O dX4_leave_37 (tgt := 9) (by decide) ?_
      exact v_loc [2, 3, 4, 1, 0] rfl (e9 a1 a2 w13 w15 X10 Y11 ((h12 w13 hw14) w15 hw16))
set_option maxHeartbeats 4000000 in
set_option maxRecDepth 100000 in
theorem kX4_leave_s {Γ : Cxt} {Q : Int32 → XT → YT → Prop} (O : Ok Γ RX4 cX4_leave 5 { frames := 2, cells := 0, slots := 0, locals := 43 }) (r : Ret Γ (some .int) (qI Q)) {I9 : Int32 → Int32 → Int32 → Int32 → XT → YT → Prop} (e9 : ∀ (a1 : Int32) (a2 : Int32) (a3 : Int32) (a4 : Int32) (X : XT) (Y : YT), I9 a1 a2 a3 a4 X Y → V Γ 9 [(0, .ref 28), (1, .int a1), (2, .int a2), (3, .int a3), (4, .int a4)] [] X Y) {p0 : Int32} {p1 : Int32} {X : XT} {Y : YT} (h : BX4_leave_s I9 Q p0 p1 X Y) : V Γ 0 [(0, .ref 28), (1, .int p0), (2, .int p1)] [] X Y := by
  refine v_bipush O dX4_leave_0 kb_10 ?_
  refine v_callN (rm' := { frames := 0, cells := 0, slots := 0, locals := 0 }) (As := [.int 10]) (st := []) O dX4_leave_2 ci_X9_allBelow ml_X4_24 ms_X9_allBelow ⟨rfl, rfl, (by decide), (by decide)⟩ rfl (Nat.le_of_ble_eq_true rfl) rfl (mX9_allBelow h) (k_I (fun r1 X2 Y3 h4 => ?_))
  refine v_istore_n (lv' := [(3, .int r1), (0, .ref 28), (1, .int p0), (2, .int p1)]) O dX4_leave_5 rfl (by decide) rfl ?_
  refine v_iconst O dX4_leave_6 kc_0 ?_
  refine v_istore (lv' := [(4, .int 0), (3, .int r1), (0, .ref 28), (1, .int p0), (2, .int p1)]) O dX4_leave_7 (by decide) rfl ?_
  exact v_loc [2, 3, 4, 1, 0] rfl (e9 p0 p1 r1 0 X2 Y3 h4)
set_option maxRecDepth 100000 in
theorem mX4_leave {Γ : Cxt} {p0 : Int32} {p1 : Int32} {X : XT} {Y : YT} {Q : Int32 → XT → YT → Prop} (h : PX4_leave p0 p1 X Y Q) : MT Γ yX4_leave (.code yX4_leave cX4_leave 5 (some .int) :: wl) { frames := 2, cells := 0, slots := 0, locals := 43 } [.ref 28, .int p0, .int p1] X Y (qI Q) :=
  mt_of (by decide) (Nat.le_of_ble_eq_true rfl) (fun Γ _ O r => kX4_leave_s O r (fun _ _ _ _ _ _ g => g) (h (fun a1 a2 a3 a4 X Y => V Γ 9 [(0, .ref 28), (1, .int a1), (2, .int a2), (3, .int a3), (4, .int a4)] [] X Y) (fun _ _ _ _ _ _ g => kX4_leave_9 O r (fun _ _ _ _ _ _ g => g) g)))
theorem dX6_isBesideTheOneAhead_0 : decode cX6_isBesideTheOneAhead 0 = .ok (.iload_n 1, 1) := by decide +kernel
theorem dX6_isBesideTheOneAhead_1 : decode cX6_isBesideTheOneAhead 1 = .ok (.ifCond .le 24, 3) := by decide +kernel
theorem dX6_isBesideTheOneAhead_4 : decode cX6_isBesideTheOneAhead 4 = .ok (.aload_n 0, 1) := by decide +kernel
theorem dX6_isBesideTheOneAhead_5 : decode cX6_isBesideTheOneAhead 5 = .ok (.getfield 9, 3) := by decide +kernel
theorem dX6_isBesideTheOneAhead_8 : decode cX6_isBesideTheOneAhead 8 = .ok (.iload_n 1, 1) := by decide +kernel
theorem dX6_isBesideTheOneAhead_9 : decode cX6_isBesideTheOneAhead 9 = .ok (.iaload, 1) := by decide +kernel
theorem dX6_isBesideTheOneAhead_10 : decode cX6_isBesideTheOneAhead 10 = .ok (.aload_n 0, 1) := by decide +kernel
theorem dX6_isBesideTheOneAhead_11 : decode cX6_isBesideTheOneAhead 11 = .ok (.getfield 9, 3) := by decide +kernel
theorem dX6_isBesideTheOneAhead_14 : decode cX6_isBesideTheOneAhead 14 = .ok (.iload_n 1, 1) := by decide +kernel
theorem dX6_isBesideTheOneAhead_15 : decode cX6_isBesideTheOneAhead 15 = .ok (.iconst 1, 1) := by decide +kernel
theorem dX6_isBesideTheOneAhead_16 : decode cX6_isBesideTheOneAhead 16 = .ok (.isub, 1) := by decide +kernel
theorem dX6_isBesideTheOneAhead_17 : decode cX6_isBesideTheOneAhead 17 = .ok (.iaload, 1) := by decide +kernel
theorem dX6_isBesideTheOneAhead_18 : decode cX6_isBesideTheOneAhead 18 = .ok (.if_icmp .ne 7, 3) := by decide +kernel
theorem dX6_isBesideTheOneAhead_21 : decode cX6_isBesideTheOneAhead 21 = .ok (.iconst 1, 1) := by decide +kernel
theorem dX6_isBesideTheOneAhead_22 : decode cX6_isBesideTheOneAhead 22 = .ok (.goto 4, 3) := by decide +kernel
theorem dX6_isBesideTheOneAhead_25 : decode cX6_isBesideTheOneAhead 25 = .ok (.iconst 0, 1) := by decide +kernel
theorem dX6_isBesideTheOneAhead_26 : decode cX6_isBesideTheOneAhead 26 = .ok (.ireturn, 1) := by decide +kernel
def BX6_isBesideTheOneAhead_s (Q : Int32 → XT → YT → Prop) (p0 : Int32) (X : XT) (Y : YT) : Prop :=
  ((p0 ≤ 0 → Q 0 X Y) ∧ (¬ p0 ≤ 0 → vp_in p0 18 ∧ vp_in (p0 - 1) 18 ∧ ((¬ (X 32 p0.toNatClampNeg) = (X 32 (p0 - 1).toNatClampNeg) → Q 0 X Y) ∧ ((X 32 p0.toNatClampNeg) = (X 32 (p0 - 1).toNatClampNeg) → Q 1 X Y))))
def PX6_isBesideTheOneAhead (p0 : Int32) (X : XT) (Y : YT) (Q : Int32 → XT → YT → Prop) : Prop :=  BX6_isBesideTheOneAhead_s Q p0 X Y
set_option maxHeartbeats 4000000 in
set_option maxRecDepth 100000 in
theorem kX6_isBesideTheOneAhead_s {Γ : Cxt} {Q : Int32 → XT → YT → Prop} (O : Ok Γ RX6 cX6_isBesideTheOneAhead 2 { frames := 0, cells := 0, slots := 0, locals := 0 }) (r : Ret Γ (some .boolean) (qI Q)) {p0 : Int32} {X : XT} {Y : YT} (h : BX6_isBesideTheOneAhead_s Q p0 X Y) : V Γ 0 [(0, .ref 31), (1, .int p0)] [] X Y := by
  refine v_iload_n O dX6_isBesideTheOneAhead_0 rfl 1 rfl ?_
  refine v_if_le (tgt := 25) O dX6_isBesideTheOneAhead_1 (by decide) (fun g1 => ?_) (fun g1 => ?_)
  · refine v_iconst O dX6_isBesideTheOneAhead_25 kc_0 ?_
    exact v_zret O r dX6_isBesideTheOneAhead_26 (by decide) ⟨_, rfl, (h.1 g1)⟩
  · refine v_aload_n O dX6_isBesideTheOneAhead_4 rfl 0 rfl ?_
    refine v_get O dX6_isBesideTheOneAhead_5 fo_X6_9 sh_31 rfl rfl ?_
    refine v_iload_n O dX6_isBesideTheOneAhead_8 rfl 1 rfl ?_
    refine v_iald O dX6_isBesideTheOneAhead_9 sh_32 (h.2 g1).1 ?_
    refine v_aload_n O dX6_isBesideTheOneAhead_10 rfl 0 rfl ?_
    refine v_get O dX6_isBesideTheOneAhead_11 fo_X6_9 sh_31 rfl rfl ?_
    refine v_iload_n O dX6_isBesideTheOneAhead_14 rfl 1 rfl ?_
    refine v_iconst O dX6_isBesideTheOneAhead_15 kc_1 ?_
    refine v_isub O dX6_isBesideTheOneAhead_16 ?_
    refine v_iald O dX6_isBesideTheOneAhead_17 sh_32 (h.2 g1).2.1 ?_
    refine v_icmp_ne (tgt := 25) O dX6_isBesideTheOneAhead_18 (by decide) (fun g2 => ?_) (fun g2 => ?_)
    · refine v_iconst O dX6_isBesideTheOneAhead_25 kc_0 ?_
      exact v_zret O r dX6_isBesideTheOneAhead_26 (by decide) ⟨_, rfl, ((h.2 g1).2.2.1 g2)⟩
    · refine v_iconst O dX6_isBesideTheOneAhead_21 kc_1 ?_
      refine v_goto O dX6_isBesideTheOneAhead_22 (tgt := 26) (by decide) ?_
      exact v_zret O r dX6_isBesideTheOneAhead_26 (by decide) ⟨_, rfl, ((h.2 g1).2.2.2 g2)⟩
set_option maxRecDepth 100000 in
theorem mX6_isBesideTheOneAhead {Γ : Cxt} {p0 : Int32} {X : XT} {Y : YT} {Q : Int32 → XT → YT → Prop} (h : PX6_isBesideTheOneAhead p0 X Y Q) : MT Γ yX6_isBesideTheOneAhead (.code yX6_isBesideTheOneAhead cX6_isBesideTheOneAhead 2 (some .boolean) :: wl) { frames := 0, cells := 0, slots := 0, locals := 0 } [.ref 31, .int p0] X Y (qI Q) :=
  mt_of (by decide) (Nat.le_of_ble_eq_true rfl) (fun Γ _ O r => kX6_isBesideTheOneAhead_s O r  (h ))
theorem dX5_enter_0 : decode cX5_enter 0 = .ok (.aload_n 0, 1) := by decide +kernel
theorem dX5_enter_1 : decode cX5_enter 1 = .ok (.getfield 22, 3) := by decide +kernel
theorem dX5_enter_4 : decode cX5_enter 4 = .ok (.iload_n 1, 1) := by decide +kernel
theorem dX5_enter_5 : decode cX5_enter 5 = .ok (.iconst 0, 1) := by decide +kernel
theorem dX5_enter_6 : decode cX5_enter 6 = .ok (.iastore, 1) := by decide +kernel
theorem dX5_enter_7 : decode cX5_enter 7 = .ok (.aload_n 0, 1) := by decide +kernel
theorem dX5_enter_8 : decode cX5_enter 8 = .ok (.getfield 25, 3) := by decide +kernel
theorem dX5_enter_11 : decode cX5_enter 11 = .ok (.iload_n 1, 1) := by decide +kernel
theorem dX5_enter_12 : decode cX5_enter 12 = .ok (.aload_n 0, 1) := by decide +kernel
theorem dX5_enter_13 : decode cX5_enter 13 = .ok (.getfield 42, 3) := by decide +kernel
theorem dX5_enter_16 : decode cX5_enter 16 = .ok (.iload_n 1, 1) := by decide +kernel
theorem dX5_enter_17 : decode cX5_enter 17 = .ok (.invokevirtual 101, 3) := by decide +kernel
theorem dX5_enter_20 : decode cX5_enter 20 = .ok (.ifCond .eq 30, 3) := by decide +kernel
theorem dX5_enter_23 : decode cX5_enter 23 = .ok (.aload_n 0, 1) := by decide +kernel
theorem dX5_enter_24 : decode cX5_enter 24 = .ok (.getfield 25, 3) := by decide +kernel
theorem dX5_enter_27 : decode cX5_enter 27 = .ok (.iload_n 1, 1) := by decide +kernel
theorem dX5_enter_28 : decode cX5_enter 28 = .ok (.iconst 1, 1) := by decide +kernel
theorem dX5_enter_29 : decode cX5_enter 29 = .ok (.isub, 1) := by decide +kernel
theorem dX5_enter_30 : decode cX5_enter 30 = .ok (.iaload, 1) := by decide +kernel
theorem dX5_enter_31 : decode cX5_enter 31 = .ok (.aload_n 0, 1) := by decide +kernel
theorem dX5_enter_32 : decode cX5_enter 32 = .ok (.getfield 38, 3) := by decide +kernel
theorem dX5_enter_35 : decode cX5_enter 35 = .ok (.aload_n 0, 1) := by decide +kernel
theorem dX5_enter_36 : decode cX5_enter 36 = .ok (.getfield 18, 3) := by decide +kernel
theorem dX5_enter_39 : decode cX5_enter 39 = .ok (.iload_n 1, 1) := by decide +kernel
theorem dX5_enter_40 : decode cX5_enter 40 = .ok (.iconst 1, 1) := by decide +kernel
theorem dX5_enter_41 : decode cX5_enter 41 = .ok (.isub, 1) := by decide +kernel
theorem dX5_enter_42 : decode cX5_enter 42 = .ok (.iaload, 1) := by decide +kernel
theorem dX5_enter_43 : decode cX5_enter 43 = .ok (.invokevirtual 105, 3) := by decide +kernel
theorem dX5_enter_46 : decode cX5_enter 46 = .ok (.ior, 1) := by decide +kernel
theorem dX5_enter_47 : decode cX5_enter 47 = .ok (.goto 4, 3) := by decide +kernel
theorem dX5_enter_50 : decode cX5_enter 50 = .ok (.iconst 0, 1) := by decide +kernel
theorem dX5_enter_51 : decode cX5_enter 51 = .ok (.iastore, 1) := by decide +kernel
theorem dX5_enter_52 : decode cX5_enter 52 = .ok (.aload_n 0, 1) := by decide +kernel
theorem dX5_enter_53 : decode cX5_enter 53 = .ok (.getfield 42, 3) := by decide +kernel
theorem dX5_enter_56 : decode cX5_enter 56 = .ok (.getfield 108, 3) := by decide +kernel
theorem dX5_enter_59 : decode cX5_enter 59 = .ok (.iload_n 1, 1) := by decide +kernel
theorem dX5_enter_60 : decode cX5_enter 60 = .ok (.iaload, 1) := by decide +kernel
theorem dX5_enter_61 : decode cX5_enter 61 = .ok (.aload_n 0, 1) := by decide +kernel
theorem dX5_enter_62 : decode cX5_enter 62 = .ok (.getfield 25, 3) := by decide +kernel
theorem dX5_enter_65 : decode cX5_enter 65 = .ok (.iload_n 1, 1) := by decide +kernel
theorem dX5_enter_66 : decode cX5_enter 66 = .ok (.iaload, 1) := by decide +kernel
theorem dX5_enter_67 : decode cX5_enter 67 = .ok (.iconst (-1), 1) := by decide +kernel
theorem dX5_enter_68 : decode cX5_enter 68 = .ok (.ixor, 1) := by decide +kernel
theorem dX5_enter_69 : decode cX5_enter 69 = .ok (.iand, 1) := by decide +kernel
theorem dX5_enter_70 : decode cX5_enter 70 = .ok (.istore_n 2, 1) := by decide +kernel
theorem dX5_enter_71 : decode cX5_enter 71 = .ok (.aload_n 0, 1) := by decide +kernel
theorem dX5_enter_72 : decode cX5_enter 72 = .ok (.getfield 42, 3) := by decide +kernel
theorem dX5_enter_75 : decode cX5_enter 75 = .ok (.getfield 111, 3) := by decide +kernel
theorem dX5_enter_78 : decode cX5_enter 78 = .ok (.iload_n 1, 1) := by decide +kernel
theorem dX5_enter_79 : decode cX5_enter 79 = .ok (.iaload, 1) := by decide +kernel
theorem dX5_enter_80 : decode cX5_enter 80 = .ok (.istore_n 3, 1) := by decide +kernel
theorem dX5_enter_81 : decode cX5_enter 81 = .ok (.iconst 0, 1) := by decide +kernel
theorem dX5_enter_82 : decode cX5_enter 82 = .ok (.istore 4, 2) := by decide +kernel
theorem dX5_enter_84 : decode cX5_enter 84 = .ok (.iload 4, 2) := by decide +kernel
theorem dX5_enter_86 : decode cX5_enter 86 = .ok (.iload_n 1, 1) := by decide +kernel
theorem dX5_enter_87 : decode cX5_enter 87 = .ok (.if_icmp .ge 34, 3) := by decide +kernel
theorem dX5_enter_90 : decode cX5_enter 90 = .ok (.iload_n 3, 1) := by decide +kernel
theorem dX5_enter_91 : decode cX5_enter 91 = .ok (.ifCond .eq 30, 3) := by decide +kernel
theorem dX5_enter_94 : decode cX5_enter 94 = .ok (.iload_n 3, 1) := by decide +kernel
theorem dX5_enter_95 : decode cX5_enter 95 = .ok (.iload 4, 2) := by decide +kernel
theorem dX5_enter_97 : decode cX5_enter 97 = .ok (.invokestatic 84, 3) := by decide +kernel
theorem dX5_enter_100 : decode cX5_enter 100 = .ok (.ifCond .eq 15, 3) := by decide +kernel
theorem dX5_enter_103 : decode cX5_enter 103 = .ok (.iload_n 2, 1) := by decide +kernel
theorem dX5_enter_104 : decode cX5_enter 104 = .ok (.iconst 1, 1) := by decide +kernel
theorem dX5_enter_105 : decode cX5_enter 105 = .ok (.aload_n 0, 1) := by decide +kernel
theorem dX5_enter_106 : decode cX5_enter 106 = .ok (.getfield 18, 3) := by decide +kernel
theorem dX5_enter_109 : decode cX5_enter 109 = .ok (.iload 4, 2) := by decide +kernel
theorem dX5_enter_111 : decode cX5_enter 111 = .ok (.iaload, 1) := by decide +kernel
theorem dX5_enter_112 : decode cX5_enter 112 = .ok (.ishl, 1) := by decide +kernel
theorem dX5_enter_113 : decode cX5_enter 113 = .ok (.iand, 1) := by decide +kernel
theorem dX5_enter_114 : decode cX5_enter 114 = .ok (.istore_n 2, 1) := by decide +kernel
theorem dX5_enter_115 : decode cX5_enter 115 = .ok (.iinc 4 1, 3) := by decide +kernel
theorem dX5_enter_118 : decode cX5_enter 118 = .ok (.goto (-34), 3) := by decide +kernel
theorem dX5_enter_121 : decode cX5_enter 121 = .ok (.aload_n 0, 1) := by decide +kernel
theorem dX5_enter_122 : decode cX5_enter 122 = .ok (.getfield 28, 3) := by decide +kernel
theorem dX5_enter_125 : decode cX5_enter 125 = .ok (.iload_n 1, 1) := by decide +kernel
theorem dX5_enter_126 : decode cX5_enter 126 = .ok (.iload_n 2, 1) := by decide +kernel
theorem dX5_enter_127 : decode cX5_enter 127 = .ok (.iastore, 1) := by decide +kernel
theorem dX5_enter_128 : decode cX5_enter 128 = .ok (.return_, 1) := by decide +kernel
def BX5_enter_51 (I51 : Int32 → Int32 → Int32 → XT → YT → Prop) (I84 : Int32 → Int32 → Int32 → Int32 → XT → YT → Prop) (Q : XT → YT → Prop) (a1 : Int32) (t0 : Int32) (t1 : Int32) (X : XT) (Y : YT) : Prop :=
  vp_in t1 18 ∧ vp_in a1 18 ∧ vp_in a1 18 ∧ ∀ w1 : Int32, w1 = (((sX X 44 t1.toNatClampNeg t0) 33 a1.toNatClampNeg) &&& (((sX X 44 t1.toNatClampNeg t0) 44 a1.toNatClampNeg) ^^^ (-1))) → vp_in a1 18 ∧ ∀ w3 : Int32, w3 = ((sX X 44 t1.toNatClampNeg t0) 34 a1.toNatClampNeg) → I84 a1 w1 w3 0 (sX X 44 t1.toNatClampNeg t0) Y
def BX5_enter_84 (I51 : Int32 → Int32 → Int32 → XT → YT → Prop) (I84 : Int32 → Int32 → Int32 → Int32 → XT → YT → Prop) (Q : XT → YT → Prop) (a1 : Int32) (a2 : Int32) (a3 : Int32) (a4 : Int32) (X : XT) (Y : YT) : Prop :=
  ((a1 ≤ a4 → vp_in a1 18 ∧ Q (sX X 45 a1.toNatClampNeg a2) Y) ∧ (¬ a1 ≤ a4 → ((a3 = 0 → vp_in a1 18 ∧ Q (sX X 45 a1.toNatClampNeg a2) Y) ∧ (¬ a3 = 0 → PX9_has a3 a4 X Y (fun r3 X4 Y5 => ((r3 = 0 → ∀ w8 : Int32, w8 = a4 + 1 → I84 a1 a2 a3 w8 X4 Y5) ∧ (¬ r3 = 0 → vp_in a4 18 ∧ ∀ w10 : Int32, w10 = (a2 &&& (1 <<< ((X4 42 a4.toNatClampNeg) &&& 31))) → ∀ w12 : Int32, w12 = a4 + 1 → I84 a1 w10 a3 w12 X4 Y5)))))))
def BX5_enter_s (I51 : Int32 → Int32 → Int32 → XT → YT → Prop) (I84 : Int32 → Int32 → Int32 → Int32 → XT → YT → Prop) (Q : XT → YT → Prop) (p0 : Int32) (X : XT) (Y : YT) : Prop :=
  vp_in p0 18 ∧ PX6_isBesideTheOneAhead p0 (sX X 43 p0.toNatClampNeg 0) Y (fun r1 X2 Y3 => ((r1 = 0 → I51 p0 0 p0 X2 Y3) ∧ (¬ r1 = 0 → vp_in (p0 - 1) 18 ∧ vp_in (p0 - 1) 18 ∧ PX1_shutOutBy (X2 42 (p0 - 1).toNatClampNeg) X2 Y3 (fun r6 X7 Y8 => I51 p0 ((X2 44 (p0 - 1).toNatClampNeg) ||| r6) p0 X7 Y8))))
def PX5_enter (p0 : Int32) (X : XT) (Y : YT) (Q : XT → YT → Prop) : Prop := ∀ (I51 : Int32 → Int32 → Int32 → XT → YT → Prop) (I84 : Int32 → Int32 → Int32 → Int32 → XT → YT → Prop), (∀ (a1 : Int32) (t0 : Int32) (t1 : Int32) (X : XT) (Y : YT), BX5_enter_51 I51 I84 Q a1 t0 t1 X Y → I51 a1 t0 t1 X Y) → (∀ (a1 : Int32) (a2 : Int32) (a3 : Int32) (a4 : Int32) (X : XT) (Y : YT), BX5_enter_84 I51 I84 Q a1 a2 a3 a4 X Y → I84 a1 a2 a3 a4 X Y) → BX5_enter_s I51 I84 Q p0 X Y
set_option maxHeartbeats 4000000 in
set_option maxRecDepth 100000 in
theorem kX5_enter_51 {Γ : Cxt} {Q : XT → YT → Prop} (O : Ok Γ RX5 cX5_enter 5 { frames := 1, cells := 0, slots := 0, locals := 21 }) (r : Ret Γ none (qV Q)) {I51 : Int32 → Int32 → Int32 → XT → YT → Prop} {I84 : Int32 → Int32 → Int32 → Int32 → XT → YT → Prop} (e51 : ∀ (a1 : Int32) (t0 : Int32) (t1 : Int32) (X : XT) (Y : YT), I51 a1 t0 t1 X Y → V Γ 51 [(0, .ref 39), (1, .int a1)] [.int t0, .int t1, .ref 44] X Y) (e84 : ∀ (a1 : Int32) (a2 : Int32) (a3 : Int32) (a4 : Int32) (X : XT) (Y : YT), I84 a1 a2 a3 a4 X Y → V Γ 84 [(0, .ref 39), (1, .int a1), (2, .int a2), (3, .int a3), (4, .int a4)] [] X Y) {a1 : Int32} {t0 : Int32} {t1 : Int32} {X : XT} {Y : YT} (h : BX5_enter_51 I51 I84 Q a1 t0 t1 X Y) : V Γ 51 [(0, .ref 39), (1, .int a1)] [.int t0, .int t1, .ref 44] X Y := by
  refine v_iast O dX5_enter_51 sh_44 h.1 ?_
  refine v_aload_n O dX5_enter_52 rfl 0 rfl ?_
  refine v_get O dX5_enter_53 fo_X5_42 sh_39 rfl rfl ?_
  refine v_get O dX5_enter_56 fo_X5_108 sh_31 rfl rfl ?_
  refine v_iload_n O dX5_enter_59 rfl 1 rfl ?_
  refine v_iald O dX5_enter_60 sh_33 h.2.1 ?_
  refine v_aload_n O dX5_enter_61 rfl 0 rfl ?_
  refine v_get O dX5_enter_62 fo_X5_25 sh_39 rfl rfl ?_
  refine v_iload_n O dX5_enter_65 rfl 1 rfl ?_
  refine v_iald O dX5_enter_66 sh_44 h.2.2.1 ?_
  refine v_iconst O dX5_enter_67 kc_m1 ?_
  refine v_ixor O dX5_enter_68 ?_
  refine v_iand O dX5_enter_69 ?_
  refine v_topi (fun w1 hw2 => ?_)
  refine v_istore_n (lv' := [(2, .int w1), (0, .ref 39), (1, .int a1)]) O dX5_enter_70 rfl (by decide) rfl ?_
  refine v_aload_n O dX5_enter_71 rfl 1 rfl ?_
  refine v_get O dX5_enter_72 fo_X5_42 sh_39 rfl rfl ?_
  refine v_get O dX5_enter_75 fo_X5_111 sh_31 rfl rfl ?_
  refine v_iload_n O dX5_enter_78 rfl 2 rfl ?_
  refine v_iald O dX5_enter_79 sh_34 (h.2.2.2 w1 hw2).1 ?_
  refine v_topi (fun w3 hw4 => ?_)
  refine v_istore_n (lv' := [(3, .int w3), (2, .int w1), (0, .ref 39), (1, .int a1)]) O dX5_enter_80 rfl (by decide) rfl ?_
  refine v_iconst O dX5_enter_81 kc_0 ?_
  refine v_istore (lv' := [(4, .int 0), (3, .int w3), (2, .int w1), (0, .ref 39), (1, .int a1)]) O dX5_enter_82 (by decide) rfl ?_
  exact v_loc [3, 4, 2, 1, 0] rfl (e84 a1 w1 w3 0 (sX X 44 t1.toNatClampNeg t0) Y ((h.2.2.2 w1 hw2).2 w3 hw4))
set_option maxHeartbeats 4000000 in
set_option maxRecDepth 100000 in
theorem kX5_enter_84 {Γ : Cxt} {Q : XT → YT → Prop} (O : Ok Γ RX5 cX5_enter 5 { frames := 1, cells := 0, slots := 0, locals := 21 }) (r : Ret Γ none (qV Q)) {I51 : Int32 → Int32 → Int32 → XT → YT → Prop} {I84 : Int32 → Int32 → Int32 → Int32 → XT → YT → Prop} (e51 : ∀ (a1 : Int32) (t0 : Int32) (t1 : Int32) (X : XT) (Y : YT), I51 a1 t0 t1 X Y → V Γ 51 [(0, .ref 39), (1, .int a1)] [.int t0, .int t1, .ref 44] X Y) (e84 : ∀ (a1 : Int32) (a2 : Int32) (a3 : Int32) (a4 : Int32) (X : XT) (Y : YT), I84 a1 a2 a3 a4 X Y → V Γ 84 [(0, .ref 39), (1, .int a1), (2, .int a2), (3, .int a3), (4, .int a4)] [] X Y) {a1 : Int32} {a2 : Int32} {a3 : Int32} {a4 : Int32} {X : XT} {Y : YT} (h : BX5_enter_84 I51 I84 Q a1 a2 a3 a4 X Y) : V Γ 84 [(0, .ref 39), (1, .int a1), (2, .int a2), (3, .int a3), (4, .int a4)] [] X Y := by
  refine v_iload O dX5_enter_84 4 rfl ?_
  refine v_iload_n O dX5_enter_86 rfl 1 rfl ?_
  refine v_icmp_ge (tgt := 121) O dX5_enter_87 (by decide) (fun g1 => ?_) (fun g1 => ?_)
  · refine v_aload_n O dX5_enter_121 rfl 0 rfl ?_
    refine v_get O dX5_enter_122 fo_X5_28 sh_39 rfl rfl ?_
    refine v_iload_n O dX5_enter_125 rfl 1 rfl ?_
    refine v_iload_n O dX5_enter_126 rfl 2 rfl ?_
    refine v_iast O dX5_enter_127 sh_45 (h.1 g1).1 ?_
    exact v_vret O r dX5_enter_128 ⟨rfl, (h.1 g1).2⟩
  · refine v_iload_n O dX5_enter_90 rfl 3 rfl ?_
    refine v_if_eq (tgt := 121) O dX5_enter_91 (by decide) (fun g2 => ?_) (fun g2 => ?_)
    · refine v_aload_n O dX5_enter_121 rfl 0 rfl ?_
      refine v_get O dX5_enter_122 fo_X5_28 sh_39 rfl rfl ?_
      refine v_iload_n O dX5_enter_125 rfl 1 rfl ?_
      refine v_iload_n O dX5_enter_126 rfl 2 rfl ?_
      refine v_iast O dX5_enter_127 sh_45 ((h.2 g1).1 g2).1 ?_
      exact v_vret O r dX5_enter_128 ⟨rfl, ((h.2 g1).1 g2).2⟩
    · refine v_iload_n O dX5_enter_94 rfl 3 rfl ?_
      refine v_iload O dX5_enter_95 4 rfl ?_
      refine v_callN (rm' := { frames := 0, cells := 0, slots := 0, locals := 0 }) (As := [.int a3, .int a4]) (st := []) O dX5_enter_97 ci_X9_has ml_X5_84 ms_X9_has ⟨rfl, rfl, (by decide), (by decide)⟩ rfl (Nat.le_of_ble_eq_true rfl) rfl (mX9_has ((h.2 g1).2 g2)) (k_I (fun r3 X4 Y5 h6 => ?_))
      refine v_if_eq (tgt := 115) O dX5_enter_100 (by decide) (fun g7 => ?_) (fun g7 => ?_)
      · obtain ⟨w8, hw9⟩ : ∃ y : Int32, y = a4 + 1 := ⟨_, rfl⟩
        refine v_iinc (v := w8) (j := 4) O dX5_enter_115 rfl (by rw [hw9]; exact congrArg _ kc_1) (by decide) (lv' := [(4, .int w8), (0, .ref 39), (1, .int a1), (2, .int a2), (3, .int a3)]) rfl ?_
        refine v_goto O dX5_enter_118 (tgt := 84) (by decide) ?_
        exact v_loc [1, 2, 3, 4, 0] rfl (e84 a1 a2 a3 w8 X4 Y5 ((h6.1 g7) w8 hw9))
      · refine v_iload_n O dX5_enter_103 rfl 2 rfl ?_
        refine v_iconst O dX5_enter_104 kc_1 ?_
        refine v_aload_n O dX5_enter_105 rfl 0 rfl ?_
        refine v_get O dX5_enter_106 fo_X5_18 sh_39 rfl rfl ?_
        refine v_iload O dX5_enter_109 4 rfl ?_
        refine v_iald O dX5_enter_111 sh_42 (h6.2 g7).1 ?_
        refine v_ishl O dX5_enter_112 ?_
        refine v_iand O dX5_enter_113 ?_
        refine v_topi (fun w10 hw11 => ?_)
        refine v_istore_n (lv' := [(2, .int w10), (0, .ref 39), (1, .int a1), (3, .int a3), (4, .int a4)]) O dX5_enter_114 rfl (by decide) rfl ?_
        obtain ⟨w12, hw13⟩ : ∃ y : Int32, y = a4 + 1 := ⟨_, rfl⟩
        refine v_iinc (v := w12) (j := 4) O dX5_enter_115 rfl (by rw [hw13]; exact congrArg _ kc_1) (by decide) (lv' := [(4, .int w12), (2, .int w10), (0, .ref 39), (1, .int a1), (3, .int a3)]) rfl ?_
        refine v_goto O dX5_enter_118 (tgt := 84) (by decide) ?_
        exact v_loc [2, 3, 1, 4, 0] rfl (e84 a1 w10 a3 w12 X4 Y5 (((h6.2 g7).2 w10 hw11) w12 hw13))
set_option maxHeartbeats 4000000 in
set_option maxRecDepth 100000 in
theorem kX5_enter_s {Γ : Cxt} {Q : XT → YT → Prop} (O : Ok Γ RX5 cX5_enter 5 { frames := 1, cells := 0, slots := 0, locals := 21 }) (r : Ret Γ none (qV Q)) {I51 : Int32 → Int32 → Int32 → XT → YT → Prop} {I84 : Int32 → Int32 → Int32 → Int32 → XT → YT → Prop} (e51 : ∀ (a1 : Int32) (t0 : Int32) (t1 : Int32) (X : XT) (Y : YT), I51 a1 t0 t1 X Y → V Γ 51 [(0, .ref 39), (1, .int a1)] [.int t0, .int t1, .ref 44] X Y) (e84 : ∀ (a1 : Int32) (a2 : Int32) (a3 : Int32) (a4 : Int32) (X : XT) (Y : YT), I84 a1 a2 a3 a4 X Y → V Γ 84 [(0, .ref 39), (1, .int a1), (2, .int a2), (3, .int a3), (4, .int a4)] [] X Y) {p0 : Int32} {X : XT} {Y : YT} (h : BX5_enter_s I51 I84 Q p0 X Y) : V Γ 0 [(0, .ref 39), (1, .int p0)] [] X Y := by
  refine v_aload_n O dX5_enter_0 rfl 0 rfl ?_
  refine v_get O dX5_enter_1 fo_X5_22 sh_39 rfl rfl ?_
  refine v_iload_n O dX5_enter_4 rfl 1 rfl ?_
  refine v_iconst O dX5_enter_5 kc_0 ?_
  refine v_iast O dX5_enter_6 sh_43 h.1 ?_
  refine v_aload_n O dX5_enter_7 rfl 0 rfl ?_
  refine v_get O dX5_enter_8 fo_X5_25 sh_39 rfl rfl ?_
  refine v_iload_n O dX5_enter_11 rfl 1 rfl ?_
  refine v_aload_n O dX5_enter_12 rfl 0 rfl ?_
  refine v_get O dX5_enter_13 fo_X5_42 sh_39 rfl rfl ?_
  refine v_iload_n O dX5_enter_16 rfl 1 rfl ?_
  refine v_callV (rm' := { frames := 0, cells := 0, slots := 0, locals := 0 }) (As := [.int p0]) (st := [.int p0, .ref 44]) O dX5_enter_17 ci_X6_isBesideTheOneAhead ml_X5_101 mi_X6_isBesideTheOneAhead sh_31 rfl ⟨rfl, rfl, (by decide), (by decide)⟩ rfl (Nat.le_of_ble_eq_true rfl) rfl (mX6_isBesideTheOneAhead h.2) (k_I (fun r1 X2 Y3 h4 => ?_))
  refine v_if_eq (tgt := 50) O dX5_enter_20 (by decide) (fun g5 => ?_) (fun g5 => ?_)
  · refine v_iconst O dX5_enter_50 kc_0 ?_
    exact v_loc [0, 1] rfl (e51 p0 0 p0 X2 Y3 (h4.1 g5))
  · refine v_aload_n O dX5_enter_23 rfl 0 rfl ?_
    refine v_get O dX5_enter_24 fo_X5_25 sh_39 rfl rfl ?_
    refine v_iload_n O dX5_enter_27 rfl 1 rfl ?_
    refine v_iconst O dX5_enter_28 kc_1 ?_
    refine v_isub O dX5_enter_29 ?_
    refine v_iald O dX5_enter_30 sh_44 (h4.2 g5).1 ?_
    refine v_aload_n O dX5_enter_31 rfl 0 rfl ?_
    refine v_get O dX5_enter_32 fo_X5_38 sh_39 rfl rfl ?_
    refine v_aload_n O dX5_enter_35 rfl 0 rfl ?_
    refine v_get O dX5_enter_36 fo_X5_18 sh_39 rfl rfl ?_
    refine v_iload_n O dX5_enter_39 rfl 1 rfl ?_
    refine v_iconst O dX5_enter_40 kc_1 ?_
    refine v_isub O dX5_enter_41 ?_
    refine v_iald O dX5_enter_42 sh_42 (h4.2 g5).2.1 ?_
    refine v_callV (rm' := { frames := 0, cells := 0, slots := 0, locals := 0 }) (As := [.int (X2 42 (p0 - 1).toNatClampNeg)]) (st := [.int (X2 44 (p0 - 1).toNatClampNeg), .int p0, .ref 44]) O dX5_enter_43 ci_X1_shutOutBy ml_X5_105 mi_X1_shutOutBy sh_3 rfl ⟨rfl, rfl, (by decide), (by decide)⟩ rfl (Nat.le_of_ble_eq_true rfl) rfl (mX1_shutOutBy (h4.2 g5).2.2) (k_I (fun r6 X7 Y8 h9 => ?_))
    refine v_ior O dX5_enter_46 ?_
    refine v_goto O dX5_enter_47 (tgt := 51) (by decide) ?_
    exact v_loc [0, 1] rfl (e51 p0 ((X2 44 (p0 - 1).toNatClampNeg) ||| r6) p0 X7 Y8 h9)
set_option maxRecDepth 100000 in
theorem mX5_enter {Γ : Cxt} {p0 : Int32} {X : XT} {Y : YT} {Q : XT → YT → Prop} (h : PX5_enter p0 X Y Q) : MT Γ yX5_enter (.code yX5_enter cX5_enter 5 none :: wl) { frames := 1, cells := 0, slots := 0, locals := 21 } [.ref 39, .int p0] X Y (qV Q) :=
  mt_of (by decide) (Nat.le_of_ble_eq_true rfl) (fun Γ _ O r => kX5_enter_s O r (fun _ _ _ _ _ g => g) (fun _ _ _ _ _ _ g => g) (h (fun a1 t0 t1 X Y => V Γ 51 [(0, .ref 39), (1, .int a1)] [.int t0, .int t1, .ref 44] X Y) (fun a1 a2 a3 a4 X Y => V Γ 84 [(0, .ref 39), (1, .int a1), (2, .int a2), (3, .int a3), (4, .int a4)] [] X Y) (fun _ _ _ _ _ g => kX5_enter_51 O r (fun _ _ _ _ _ g => g) (fun _ _ _ _ _ _ g => g) g) (fun _ _ _ _ _ _ g => kX5_enter_84 O r (fun _ _ _ _ _ g => g) (fun _ _ _ _ _ _ g => g) g)))
theorem dX5_give_0 : decode cX5_give 0 = .ok (.aload_n 0, 1) := by decide +kernel
theorem dX5_give_1 : decode cX5_give 1 = .ok (.getfield 18, 3) := by decide +kernel
theorem dX5_give_4 : decode cX5_give 4 = .ok (.iload_n 1, 1) := by decide +kernel
theorem dX5_give_5 : decode cX5_give 5 = .ok (.iload_n 2, 1) := by decide +kernel
theorem dX5_give_6 : decode cX5_give 6 = .ok (.iastore, 1) := by decide +kernel
theorem dX5_give_7 : decode cX5_give 7 = .ok (.aload_n 0, 1) := by decide +kernel
theorem dX5_give_8 : decode cX5_give 8 = .ok (.aload_n 0, 1) := by decide +kernel
theorem dX5_give_9 : decode cX5_give 9 = .ok (.getfield 53, 3) := by decide +kernel
theorem dX5_give_12 : decode cX5_give 12 = .ok (.iload_n 1, 1) := by decide +kernel
theorem dX5_give_13 : decode cX5_give 13 = .ok (.invokestatic 88, 3) := by decide +kernel
theorem dX5_give_16 : decode cX5_give 16 = .ok (.putfield 53, 3) := by decide +kernel
theorem dX5_give_19 : decode cX5_give 19 = .ok (.aload_n 0, 1) := by decide +kernel
theorem dX5_give_20 : decode cX5_give 20 = .ok (.getfield 31, 3) := by decide +kernel
theorem dX5_give_23 : decode cX5_give 23 = .ok (.iload_n 1, 1) := by decide +kernel
theorem dX5_give_24 : decode cX5_give 24 = .ok (.iload_n 1, 1) := by decide +kernel
theorem dX5_give_25 : decode cX5_give 25 = .ok (.ifCond .le 14, 3) := by decide +kernel
theorem dX5_give_28 : decode cX5_give 28 = .ok (.aload_n 0, 1) := by decide +kernel
theorem dX5_give_29 : decode cX5_give 29 = .ok (.getfield 31, 3) := by decide +kernel
theorem dX5_give_32 : decode cX5_give 32 = .ok (.iload_n 1, 1) := by decide +kernel
theorem dX5_give_33 : decode cX5_give 33 = .ok (.iconst 1, 1) := by decide +kernel
theorem dX5_give_34 : decode cX5_give 34 = .ok (.isub, 1) := by decide +kernel
theorem dX5_give_35 : decode cX5_give 35 = .ok (.iaload, 1) := by decide +kernel
theorem dX5_give_36 : decode cX5_give 36 = .ok (.goto 4, 3) := by decide +kernel
theorem dX5_give_39 : decode cX5_give 39 = .ok (.iconst 0, 1) := by decide +kernel
theorem dX5_give_40 : decode cX5_give 40 = .ok (.iconst 1, 1) := by decide +kernel
theorem dX5_give_41 : decode cX5_give 41 = .ok (.iload_n 2, 1) := by decide +kernel
theorem dX5_give_42 : decode cX5_give 42 = .ok (.ishl, 1) := by decide +kernel
theorem dX5_give_43 : decode cX5_give 43 = .ok (.ior, 1) := by decide +kernel
theorem dX5_give_44 : decode cX5_give 44 = .ok (.iastore, 1) := by decide +kernel
theorem dX5_give_45 : decode cX5_give 45 = .ok (.aload_n 0, 1) := by decide +kernel
theorem dX5_give_46 : decode cX5_give 46 = .ok (.getfield 34, 3) := by decide +kernel
theorem dX5_give_49 : decode cX5_give 49 = .ok (.iload_n 1, 1) := by decide +kernel
theorem dX5_give_50 : decode cX5_give 50 = .ok (.iload_n 1, 1) := by decide +kernel
theorem dX5_give_51 : decode cX5_give 51 = .ok (.ifCond .le 14, 3) := by decide +kernel
theorem dX5_give_54 : decode cX5_give 54 = .ok (.aload_n 0, 1) := by decide +kernel
theorem dX5_give_55 : decode cX5_give 55 = .ok (.getfield 34, 3) := by decide +kernel
theorem dX5_give_58 : decode cX5_give 58 = .ok (.iload_n 1, 1) := by decide +kernel
theorem dX5_give_59 : decode cX5_give 59 = .ok (.iconst 1, 1) := by decide +kernel
theorem dX5_give_60 : decode cX5_give 60 = .ok (.isub, 1) := by decide +kernel
theorem dX5_give_61 : decode cX5_give 61 = .ok (.laload, 1) := by decide +kernel
theorem dX5_give_62 : decode cX5_give 62 = .ok (.goto 4, 3) := by decide +kernel
theorem dX5_give_65 : decode cX5_give 65 = .ok (.lconst 1, 1) := by decide +kernel
theorem dX5_give_66 : decode cX5_give 66 = .ok (.aload_n 0, 1) := by decide +kernel
theorem dX5_give_67 : decode cX5_give 67 = .ok (.getfield 38, 3) := by decide +kernel
theorem dX5_give_70 : decode cX5_give 70 = .ok (.getfield 114, 3) := by decide +kernel
theorem dX5_give_73 : decode cX5_give 73 = .ok (.iload_n 2, 1) := by decide +kernel
theorem dX5_give_74 : decode cX5_give 74 = .ok (.iaload, 1) := by decide +kernel
theorem dX5_give_75 : decode cX5_give 75 = .ok (.i2l, 1) := by decide +kernel
theorem dX5_give_76 : decode cX5_give 76 = .ok (.lmul, 1) := by decide +kernel
theorem dX5_give_77 : decode cX5_give 77 = .ok (.lastore, 1) := by decide +kernel
theorem dX5_give_78 : decode cX5_give 78 = .ok (.return_, 1) := by decide +kernel
def BX5_give_40 (I40 : Int32 → Int32 → Int32 → Int32 → XT → YT → Prop) (Q : XT → YT → Prop) (a1 : Int32) (a2 : Int32) (t0 : Int32) (t1 : Int32) (X : XT) (Y : YT) : Prop :=
  vp_in t1 18 ∧ ∀ X1 : XT, X1 = sX X 46 t1.toNatClampNeg (t0 ||| (1 <<< (a2 &&& 31))) → ((a1 ≤ 0 → vp_in a2 10 ∧ vp_in a1 18 ∧ ∀ Y4 : YT, Y4 = sY Y 47 a1.toNatClampNeg ((1 : Int64) * ((X1 11 a2.toNatClampNeg).toInt64)) → Q X1 Y4) ∧ (¬ a1 ≤ 0 → vp_in (a1 - 1) 18 ∧ vp_in a2 10 ∧ vp_in a1 18 ∧ ∀ Y6 : YT, Y6 = sY Y 47 a1.toNatClampNeg ((Y 47 (a1 - 1).toNatClampNeg) * ((X1 11 a2.toNatClampNeg).toInt64)) → Q X1 Y6))
def BX5_give_s (I40 : Int32 → Int32 → Int32 → Int32 → XT → YT → Prop) (Q : XT → YT → Prop) (p0 : Int32) (p1 : Int32) (X : XT) (Y : YT) : Prop :=
  vp_in p0 18 ∧ ∀ X1 : XT, X1 = sX (sX X 42 p0.toNatClampNeg p1) 39 10 (if p0 < ((sX X 42 p0.toNatClampNeg p1) 39 10) then p0 else ((sX X 42 p0.toNatClampNeg p1) 39 10)) → ((p0 ≤ 0 → I40 p0 p1 0 p0 X1 Y) ∧ (¬ p0 ≤ 0 → vp_in (p0 - 1) 18 ∧ I40 p0 p1 (X1 46 (p0 - 1).toNatClampNeg) p0 X1 Y))
def PX5_give (p0 : Int32) (p1 : Int32) (X : XT) (Y : YT) (Q : XT → YT → Prop) : Prop := ∀ (I40 : Int32 → Int32 → Int32 → Int32 → XT → YT → Prop), (∀ (a1 : Int32) (a2 : Int32) (t0 : Int32) (t1 : Int32) (X : XT) (Y : YT), BX5_give_40 I40 Q a1 a2 t0 t1 X Y → I40 a1 a2 t0 t1 X Y) → BX5_give_s I40 Q p0 p1 X Y
set_option maxHeartbeats 4000000 in
set_option maxRecDepth 100000 in
theorem kX5_give_40 {Γ : Cxt} {Q : XT → YT → Prop} (O : Ok Γ RX5 cX5_give 3 { frames := 1, cells := 0, slots := 0, locals := 21 }) (r : Ret Γ none (qV Q)) {I40 : Int32 → Int32 → Int32 → Int32 → XT → YT → Prop} (e40 : ∀ (a1 : Int32) (a2 : Int32) (t0 : Int32) (t1 : Int32) (X : XT) (Y : YT), I40 a1 a2 t0 t1 X Y → V Γ 40 [(0, .ref 39), (1, .int a1), (2, .int a2)] [.int t0, .int t1, .ref 46] X Y) {a1 : Int32} {a2 : Int32} {t0 : Int32} {t1 : Int32} {X : XT} {Y : YT} (h : BX5_give_40 I40 Q a1 a2 t0 t1 X Y) : V Γ 40 [(0, .ref 39), (1, .int a1), (2, .int a2)] [.int t0, .int t1, .ref 46] X Y := by
  refine v_iconst O dX5_give_40 kc_1 ?_
  refine v_iload_n O dX5_give_41 rfl 2 rfl ?_
  refine v_ishl O dX5_give_42 ?_
  refine v_ior O dX5_give_43 ?_
  refine v_iast O dX5_give_44 sh_46 h.1 ?_
  refine v_nmX (fun X1 hX2 => ?_)
  refine v_aload_n O dX5_give_45 rfl 0 rfl ?_
  refine v_get O dX5_give_46 fo_X5_34 sh_39 rfl rfl ?_
  refine v_iload_n O dX5_give_49 rfl 1 rfl ?_
  refine v_iload_n O dX5_give_50 rfl 1 rfl ?_
  refine v_if_le (tgt := 65) O dX5_give_51 (by decide) (fun g3 => ?_) (fun g3 => ?_)
  · refine v_lconst O dX5_give_65 (v := 1) (by decide) ?_
    refine v_aload_n O dX5_give_66 rfl 0 rfl ?_
    refine v_get O dX5_give_67 fo_X5_38 sh_39 rfl rfl ?_
    refine v_get O dX5_give_70 fo_X5_114 sh_3 rfl rfl ?_
    refine v_iload_n O dX5_give_73 rfl 2 rfl ?_
    refine v_iald O dX5_give_74 sh_11 ((h.2 X1 hX2).1 g3).1 ?_
    refine v_i2l O dX5_give_75 ?_
    refine v_lmul O dX5_give_76 ?_
    refine v_last O dX5_give_77 sh_47 ((h.2 X1 hX2).1 g3).2.1 ?_
    refine v_nmY (fun Y4 hY5 => ?_)
    exact v_vret O r dX5_give_78 ⟨rfl, (((h.2 X1 hX2).1 g3).2.2 Y4 hY5)⟩
  · refine v_aload_n O dX5_give_54 rfl 0 rfl ?_
    refine v_get O dX5_give_55 fo_X5_34 sh_39 rfl rfl ?_
    refine v_iload_n O dX5_give_58 rfl 1 rfl ?_
    refine v_iconst O dX5_give_59 kc_1 ?_
    refine v_isub O dX5_give_60 ?_
    refine v_lald O dX5_give_61 sh_47 ((h.2 X1 hX2).2 g3).1 ?_
    refine v_goto O dX5_give_62 (tgt := 66) (by decide) ?_
    refine v_aload_n O dX5_give_66 rfl 0 rfl ?_
    refine v_get O dX5_give_67 fo_X5_38 sh_39 rfl rfl ?_
    refine v_get O dX5_give_70 fo_X5_114 sh_3 rfl rfl ?_
    refine v_iload_n O dX5_give_73 rfl 2 rfl ?_
    refine v_iald O dX5_give_74 sh_11 ((h.2 X1 hX2).2 g3).2.1 ?_
    refine v_i2l O dX5_give_75 ?_
    refine v_lmul O dX5_give_76 ?_
    refine v_last O dX5_give_77 sh_47 ((h.2 X1 hX2).2 g3).2.2.1 ?_
    refine v_nmY (fun Y6 hY7 => ?_)
    exact v_vret O r dX5_give_78 ⟨rfl, (((h.2 X1 hX2).2 g3).2.2.2 Y6 hY7)⟩
set_option maxHeartbeats 4000000 in
set_option maxRecDepth 100000 in
theorem kX5_give_s {Γ : Cxt} {Q : XT → YT → Prop} (O : Ok Γ RX5 cX5_give 3 { frames := 1, cells := 0, slots := 0, locals := 21 }) (r : Ret Γ none (qV Q)) {I40 : Int32 → Int32 → Int32 → Int32 → XT → YT → Prop} (e40 : ∀ (a1 : Int32) (a2 : Int32) (t0 : Int32) (t1 : Int32) (X : XT) (Y : YT), I40 a1 a2 t0 t1 X Y → V Γ 40 [(0, .ref 39), (1, .int a1), (2, .int a2)] [.int t0, .int t1, .ref 46] X Y) {p0 : Int32} {p1 : Int32} {X : XT} {Y : YT} (h : BX5_give_s I40 Q p0 p1 X Y) : V Γ 0 [(0, .ref 39), (1, .int p0), (2, .int p1)] [] X Y := by
  refine v_aload_n O dX5_give_0 rfl 0 rfl ?_
  refine v_get O dX5_give_1 fo_X5_18 sh_39 rfl rfl ?_
  refine v_iload_n O dX5_give_4 rfl 1 rfl ?_
  refine v_iload_n O dX5_give_5 rfl 2 rfl ?_
  refine v_iast O dX5_give_6 sh_42 h.1 ?_
  refine v_aload_n O dX5_give_7 rfl 0 rfl ?_
  refine v_aload_n O dX5_give_8 rfl 0 rfl ?_
  refine v_get O dX5_give_9 fo_X5_53 sh_39 rfl rfl ?_
  refine v_iload_n O dX5_give_12 rfl 1 rfl ?_
  refine v_min O dX5_give_13 ml_X5_88 (by decide) (by show _ + 13 ≤ _; exact Nat.le_of_ble_eq_true rfl) ?_
  refine v_putI O dX5_give_16 fo_X5_53 fp_5_10 sh_39 rfl rfl rfl ?_
  refine v_nmX (fun X1 hX2 => ?_)
  refine v_aload_n O dX5_give_19 rfl 0 rfl ?_
  refine v_get O dX5_give_20 fo_X5_31 sh_39 rfl rfl ?_
  refine v_iload_n O dX5_give_23 rfl 1 rfl ?_
  refine v_iload_n O dX5_give_24 rfl 1 rfl ?_
  refine v_if_le (tgt := 39) O dX5_give_25 (by decide) (fun g3 => ?_) (fun g3 => ?_)
  · refine v_iconst O dX5_give_39 kc_0 ?_
    exact v_loc [0, 1, 2] rfl (e40 p0 p1 0 p0 X1 Y ((h.2 X1 hX2).1 g3))
  · refine v_aload_n O dX5_give_28 rfl 0 rfl ?_
    refine v_get O dX5_give_29 fo_X5_31 sh_39 rfl rfl ?_
    refine v_iload_n O dX5_give_32 rfl 1 rfl ?_
    refine v_iconst O dX5_give_33 kc_1 ?_
    refine v_isub O dX5_give_34 ?_
    refine v_iald O dX5_give_35 sh_46 ((h.2 X1 hX2).2 g3).1 ?_
    refine v_goto O dX5_give_36 (tgt := 40) (by decide) ?_
    exact v_loc [0, 1, 2] rfl (e40 p0 p1 (X1 46 (p0 - 1).toNatClampNeg) p0 X1 Y ((h.2 X1 hX2).2 g3).2)
set_option maxRecDepth 100000 in
theorem mX5_give {Γ : Cxt} {p0 : Int32} {p1 : Int32} {X : XT} {Y : YT} {Q : XT → YT → Prop} (h : PX5_give p0 p1 X Y Q) : MT Γ yX5_give (.code yX5_give cX5_give 3 none :: wl) { frames := 1, cells := 0, slots := 0, locals := 21 } [.ref 39, .int p0, .int p1] X Y (qV Q) :=
  mt_of (by decide) (Nat.le_of_ble_eq_true rfl) (fun Γ _ O r => kX5_give_s O r (fun _ _ _ _ _ _ g => g) (h (fun a1 a2 t0 t1 X Y => V Γ 40 [(0, .ref 39), (1, .int a1), (2, .int a2)] [.int t0, .int t1, .ref 46] X Y) (fun _ _ _ _ _ _ g => kX5_give_40 O r (fun _ _ _ _ _ _ g => g) g)))
theorem dX7_add_0 : decode cX7_add 0 = .ok (.aload_n 0, 1) := by decide +kernel
theorem dX7_add_1 : decode cX7_add 1 = .ok (.dup, 1) := by decide +kernel
theorem dX7_add_2 : decode cX7_add 2 = .ok (.getfield 28, 3) := by decide +kernel
theorem dX7_add_5 : decode cX7_add 5 = .ok (.iconst 1, 1) := by decide +kernel
theorem dX7_add_6 : decode cX7_add 6 = .ok (.iadd, 1) := by decide +kernel
theorem dX7_add_7 : decode cX7_add 7 = .ok (.putfield 28, 3) := by decide +kernel
theorem dX7_add_10 : decode cX7_add 10 = .ok (.aload_n 0, 1) := by decide +kernel
theorem dX7_add_11 : decode cX7_add 11 = .ok (.dup, 1) := by decide +kernel
theorem dX7_add_12 : decode cX7_add 12 = .ok (.getfield 35, 3) := by decide +kernel
theorem dX7_add_15 : decode cX7_add 15 = .ok (.iload_n 1, 1) := by decide +kernel
theorem dX7_add_16 : decode cX7_add 16 = .ok (.iand, 1) := by decide +kernel
theorem dX7_add_17 : decode cX7_add 17 = .ok (.putfield 35, 3) := by decide +kernel
theorem dX7_add_20 : decode cX7_add 20 = .ok (.aload_n 0, 1) := by decide +kernel
theorem dX7_add_21 : decode cX7_add 21 = .ok (.dup, 1) := by decide +kernel
theorem dX7_add_22 : decode cX7_add 22 = .ok (.getfield 38, 3) := by decide +kernel
theorem dX7_add_25 : decode cX7_add 25 = .ok (.lload_n 2, 1) := by decide +kernel
theorem dX7_add_26 : decode cX7_add 26 = .ok (.ladd, 1) := by decide +kernel
theorem dX7_add_27 : decode cX7_add 27 = .ok (.putfield 38, 3) := by decide +kernel
theorem dX7_add_30 : decode cX7_add 30 = .ok (.aload_n 0, 1) := by decide +kernel
theorem dX7_add_31 : decode cX7_add 31 = .ok (.dup, 1) := by decide +kernel
theorem dX7_add_32 : decode cX7_add 32 = .ok (.getfield 42, 3) := by decide +kernel
theorem dX7_add_35 : decode cX7_add 35 = .ok (.iload 4, 2) := by decide +kernel
theorem dX7_add_37 : decode cX7_add 37 = .ok (.ifCond .eq 7, 3) := by decide +kernel
theorem dX7_add_40 : decode cX7_add 40 = .ok (.lload_n 2, 1) := by decide +kernel
theorem dX7_add_41 : decode cX7_add 41 = .ok (.goto 4, 3) := by decide +kernel
theorem dX7_add_44 : decode cX7_add 44 = .ok (.lconst 0, 1) := by decide +kernel
theorem dX7_add_45 : decode cX7_add 45 = .ok (.ladd, 1) := by decide +kernel
theorem dX7_add_46 : decode cX7_add 46 = .ok (.putfield 42, 3) := by decide +kernel
theorem dX7_add_49 : decode cX7_add 49 = .ok (.return_, 1) := by decide +kernel
def BX7_add_s (Q : XT → YT → Prop) (p0 : Int32) (p1 : Int64) (p2 : Int32) (X : XT) (Y : YT) : Prop :=
  ∀ X1 : XT, X1 = sX (sX X 40 1 ((X 40 1) + 1)) 40 2 (((sX X 40 1 ((X 40 1) + 1)) 40 2) &&& p0) → ((p2 = 0 → ∀ Y4 : YT, Y4 = sY (sY Y 40 3 ((Y 40 3) + p1)) 40 4 (((sY Y 40 3 ((Y 40 3) + p1)) 40 4) + (0 : Int64)) → Q X1 Y4) ∧ (¬ p2 = 0 → ∀ Y6 : YT, Y6 = sY (sY Y 40 3 ((Y 40 3) + p1)) 40 4 (((sY Y 40 3 ((Y 40 3) + p1)) 40 4) + p1) → Q X1 Y6))
def PX7_add (p0 : Int32) (p1 : Int64) (p2 : Int32) (X : XT) (Y : YT) (Q : XT → YT → Prop) : Prop :=  BX7_add_s Q p0 p1 p2 X Y
set_option maxHeartbeats 4000000 in
set_option maxRecDepth 100000 in
theorem kX7_add_s {Γ : Cxt} {Q : XT → YT → Prop} (O : Ok Γ RX7 cX7_add 5 { frames := 0, cells := 0, slots := 0, locals := 0 }) (r : Ret Γ none (qV Q)) {p0 : Int32} {p1 : Int64} {p2 : Int32} {X : XT} {Y : YT} (h : BX7_add_s Q p0 p1 p2 X Y) : V Γ 0 [(0, .ref 40), (1, .int p0), (2, .long p1), (4, .int p2)] [] X Y := by
  refine v_aload_n O dX7_add_0 rfl 0 rfl ?_
  refine v_dup O dX7_add_1 rfl ?_
  refine v_get O dX7_add_2 fo_X7_28 sh_40 rfl rfl ?_
  refine v_iconst O dX7_add_5 kc_1 ?_
  refine v_iadd O dX7_add_6 ?_
  refine v_putI O dX7_add_7 fo_X7_28 fp_7_1 sh_40 rfl rfl rfl ?_
  refine v_aload_n O dX7_add_10 rfl 0 rfl ?_
  refine v_dup O dX7_add_11 rfl ?_
  refine v_get O dX7_add_12 fo_X7_35 sh_40 rfl rfl ?_
  refine v_iload_n O dX7_add_15 rfl 1 rfl ?_
  refine v_iand O dX7_add_16 ?_
  refine v_putI O dX7_add_17 fo_X7_35 fp_7_2 sh_40 rfl rfl rfl ?_
  refine v_nmX (fun X1 hX2 => ?_)
  refine v_aload_n O dX7_add_20 rfl 0 rfl ?_
  refine v_dup O dX7_add_21 rfl ?_
  refine v_get O dX7_add_22 fo_X7_38 sh_40 rfl rfl ?_
  refine v_lload_n O dX7_add_25 rfl 2 rfl ?_
  refine v_ladd O dX7_add_26 ?_
  refine v_putL O dX7_add_27 fo_X7_38 fp_7_3 sh_40 rfl ?_
  refine v_aload_n O dX7_add_30 rfl 0 rfl ?_
  refine v_dup O dX7_add_31 rfl ?_
  refine v_get O dX7_add_32 fo_X7_42 sh_40 rfl rfl ?_
  refine v_iload O dX7_add_35 3 rfl ?_
  refine v_if_eq (tgt := 44) O dX7_add_37 (by decide) (fun g3 => ?_) (fun g3 => ?_)
  · refine v_lconst O dX7_add_44 (v := 0) (by decide) ?_
    refine v_ladd O dX7_add_45 ?_
    refine v_putL O dX7_add_46 fo_X7_42 fp_7_4 sh_40 rfl ?_
    refine v_nmY (fun Y4 hY5 => ?_)
    exact v_vret O r dX7_add_49 ⟨rfl, (((h X1 hX2).1 g3) Y4 hY5)⟩
  · refine v_lload_n O dX7_add_40 rfl 2 rfl ?_
    refine v_goto O dX7_add_41 (tgt := 45) (by decide) ?_
    refine v_ladd O dX7_add_45 ?_
    refine v_putL O dX7_add_46 fo_X7_42 fp_7_4 sh_40 rfl ?_
    refine v_nmY (fun Y6 hY7 => ?_)
    exact v_vret O r dX7_add_49 ⟨rfl, (((h X1 hX2).2 g3) Y6 hY7)⟩
set_option maxRecDepth 100000 in
theorem mX7_add {Γ : Cxt} {p0 : Int32} {p1 : Int64} {p2 : Int32} {X : XT} {Y : YT} {Q : XT → YT → Prop} (h : PX7_add p0 p1 p2 X Y Q) : MT Γ yX7_add (.code yX7_add cX7_add 5 none :: wl) { frames := 0, cells := 0, slots := 0, locals := 0 } [.ref 40, .int p0, .long p1, .int p2] X Y (qV Q) :=
  mt_of (by decide) (Nat.le_of_ble_eq_true rfl) (fun Γ _ O r => kX7_add_s O r  (h ))
theorem dX5_takeReading_0 : decode cX5_takeReading 0 = .ok (.aload_n 0, 1) := by decide +kernel
theorem dX5_takeReading_1 : decode cX5_takeReading 1 = .ok (.getfield 53, 3) := by decide +kernel
theorem dX5_takeReading_4 : decode cX5_takeReading 4 = .ok (.istore_n 2, 1) := by decide +kernel
theorem dX5_takeReading_5 : decode cX5_takeReading 5 = .ok (.iload_n 2, 1) := by decide +kernel
theorem dX5_takeReading_6 : decode cX5_takeReading 6 = .ok (.iload_n 1, 1) := by decide +kernel
theorem dX5_takeReading_7 : decode cX5_takeReading 7 = .ok (.if_icmp .gt 29, 3) := by decide +kernel
theorem dX5_takeReading_10 : decode cX5_takeReading 10 = .ok (.aload_n 0, 1) := by decide +kernel
theorem dX5_takeReading_11 : decode cX5_takeReading 11 = .ok (.getfield 12, 3) := by decide +kernel
theorem dX5_takeReading_14 : decode cX5_takeReading 14 = .ok (.getfield 117, 3) := by decide +kernel
theorem dX5_takeReading_17 : decode cX5_takeReading 17 = .ok (.iload_n 2, 1) := by decide +kernel
theorem dX5_takeReading_18 : decode cX5_takeReading 18 = .ok (.dup2, 1) := by decide +kernel
theorem dX5_takeReading_19 : decode cX5_takeReading 19 = .ok (.iaload, 1) := by decide +kernel
theorem dX5_takeReading_20 : decode cX5_takeReading 20 = .ok (.iconst 1, 1) := by decide +kernel
theorem dX5_takeReading_21 : decode cX5_takeReading 21 = .ok (.aload_n 0, 1) := by decide +kernel
theorem dX5_takeReading_22 : decode cX5_takeReading 22 = .ok (.getfield 18, 3) := by decide +kernel
theorem dX5_takeReading_25 : decode cX5_takeReading 25 = .ok (.iload_n 2, 1) := by decide +kernel
theorem dX5_takeReading_26 : decode cX5_takeReading 26 = .ok (.iaload, 1) := by decide +kernel
theorem dX5_takeReading_27 : decode cX5_takeReading 27 = .ok (.ishl, 1) := by decide +kernel
theorem dX5_takeReading_28 : decode cX5_takeReading 28 = .ok (.ior, 1) := by decide +kernel
theorem dX5_takeReading_29 : decode cX5_takeReading 29 = .ok (.iastore, 1) := by decide +kernel
theorem dX5_takeReading_30 : decode cX5_takeReading 30 = .ok (.iinc 2 1, 3) := by decide +kernel
theorem dX5_takeReading_33 : decode cX5_takeReading 33 = .ok (.goto (-28), 3) := by decide +kernel
theorem dX5_takeReading_36 : decode cX5_takeReading 36 = .ok (.aload_n 0, 1) := by decide +kernel
theorem dX5_takeReading_37 : decode cX5_takeReading 37 = .ok (.iload_n 1, 1) := by decide +kernel
theorem dX5_takeReading_38 : decode cX5_takeReading 38 = .ok (.iconst 1, 1) := by decide +kernel
theorem dX5_takeReading_39 : decode cX5_takeReading 39 = .ok (.iadd, 1) := by decide +kernel
theorem dX5_takeReading_40 : decode cX5_takeReading 40 = .ok (.putfield 53, 3) := by decide +kernel
theorem dX5_takeReading_43 : decode cX5_takeReading 43 = .ok (.aload_n 0, 1) := by decide +kernel
theorem dX5_takeReading_44 : decode cX5_takeReading 44 = .ok (.getfield 12, 3) := by decide +kernel
theorem dX5_takeReading_47 : decode cX5_takeReading 47 = .ok (.getfield 120, 3) := by decide +kernel
theorem dX5_takeReading_50 : decode cX5_takeReading 50 = .ok (.istore_n 2, 1) := by decide +kernel
theorem dX5_takeReading_51 : decode cX5_takeReading 51 = .ok (.iload_n 2, 1) := by decide +kernel
theorem dX5_takeReading_52 : decode cX5_takeReading 52 = .ok (.iconst 0, 1) := by decide +kernel
theorem dX5_takeReading_53 : decode cX5_takeReading 53 = .ok (.iload_n 1, 1) := by decide +kernel
theorem dX5_takeReading_54 : decode cX5_takeReading 54 = .ok (.invokestatic 123, 3) := by decide +kernel
theorem dX5_takeReading_57 : decode cX5_takeReading 57 = .ok (.ifCond .eq 23, 3) := by decide +kernel
theorem dX5_takeReading_60 : decode cX5_takeReading 60 = .ok (.aload_n 0, 1) := by decide +kernel
theorem dX5_takeReading_61 : decode cX5_takeReading 61 = .ok (.getfield 18, 3) := by decide +kernel
theorem dX5_takeReading_64 : decode cX5_takeReading 64 = .ok (.iload_n 2, 1) := by decide +kernel
theorem dX5_takeReading_65 : decode cX5_takeReading 65 = .ok (.iaload, 1) := by decide +kernel
theorem dX5_takeReading_66 : decode cX5_takeReading 66 = .ok (.aload_n 0, 1) := by decide +kernel
theorem dX5_takeReading_67 : decode cX5_takeReading 67 = .ok (.getfield 12, 3) := by decide +kernel
theorem dX5_takeReading_70 : decode cX5_takeReading 70 = .ok (.getfield 127, 3) := by decide +kernel
theorem dX5_takeReading_73 : decode cX5_takeReading 73 = .ok (.if_icmp .ne 7, 3) := by decide +kernel
theorem dX5_takeReading_76 : decode cX5_takeReading 76 = .ok (.iconst 1, 1) := by decide +kernel
theorem dX5_takeReading_77 : decode cX5_takeReading 77 = .ok (.goto 4, 3) := by decide +kernel
theorem dX5_takeReading_80 : decode cX5_takeReading 80 = .ok (.iconst 0, 1) := by decide +kernel
theorem dX5_takeReading_81 : decode cX5_takeReading 81 = .ok (.istore_n 3, 1) := by decide +kernel
theorem dX5_takeReading_82 : decode cX5_takeReading 82 = .ok (.aload_n 0, 1) := by decide +kernel
theorem dX5_takeReading_83 : decode cX5_takeReading 83 = .ok (.getfield 12, 3) := by decide +kernel
theorem dX5_takeReading_86 : decode cX5_takeReading 86 = .ok (.aload_n 0, 1) := by decide +kernel
theorem dX5_takeReading_87 : decode cX5_takeReading 87 = .ok (.getfield 31, 3) := by decide +kernel
theorem dX5_takeReading_90 : decode cX5_takeReading 90 = .ok (.iload_n 1, 1) := by decide +kernel
theorem dX5_takeReading_91 : decode cX5_takeReading 91 = .ok (.iaload, 1) := by decide +kernel
theorem dX5_takeReading_92 : decode cX5_takeReading 92 = .ok (.aload_n 0, 1) := by decide +kernel
theorem dX5_takeReading_93 : decode cX5_takeReading 93 = .ok (.getfield 34, 3) := by decide +kernel
theorem dX5_takeReading_96 : decode cX5_takeReading 96 = .ok (.iload_n 1, 1) := by decide +kernel
theorem dX5_takeReading_97 : decode cX5_takeReading 97 = .ok (.laload, 1) := by decide +kernel
theorem dX5_takeReading_98 : decode cX5_takeReading 98 = .ok (.iload_n 3, 1) := by decide +kernel
theorem dX5_takeReading_99 : decode cX5_takeReading 99 = .ok (.invokevirtual 65, 3) := by decide +kernel
theorem dX5_takeReading_102 : decode cX5_takeReading 102 = .ok (.return_, 1) := by decide +kernel
def BX5_takeReading_5 (I5 : Int32 → Int32 → XT → YT → Prop) (I80 : Int32 → XT → YT → Prop) (I81 : Int32 → Int32 → XT → YT → Prop) (Q : XT → YT → Prop) (a1 : Int32) (a2 : Int32) (X : XT) (Y : YT) : Prop :=
  ((a1 < a2 → ∀ w2 : Int32, w2 = ((sX X 39 10 (a1 + 1)) 40 5) → PX9_within w2 0 a1 (sX X 39 10 (a1 + 1)) Y (fun r4 X5 Y6 => ((r4 = 0 → I80 a1 X5 Y6) ∧ (¬ r4 = 0 → vp_in w2 18 ∧ ((¬ (X5 42 w2.toNatClampNeg) = (X5 40 6) → I80 a1 X5 Y6) ∧ ((X5 42 w2.toNatClampNeg) = (X5 40 6) → I81 a1 1 X5 Y6)))))) ∧ (¬ a1 < a2 → vp_in a2 18 ∧ vp_in a2 18 ∧ vp_in a2 18 ∧ ∀ X10 : XT, X10 = sX X 41 a2.toNatClampNeg ((X 41 a2.toNatClampNeg) ||| (1 <<< ((X 42 a2.toNatClampNeg) &&& 31))) → ∀ w12 : Int32, w12 = a2 + 1 → I5 a1 w12 X10 Y))
def BX5_takeReading_80 (I5 : Int32 → Int32 → XT → YT → Prop) (I80 : Int32 → XT → YT → Prop) (I81 : Int32 → Int32 → XT → YT → Prop) (Q : XT → YT → Prop) (a1 : Int32) (X : XT) (Y : YT) : Prop :=
  I81 a1 0 X Y
def BX5_takeReading_81 (I5 : Int32 → Int32 → XT → YT → Prop) (I80 : Int32 → XT → YT → Prop) (I81 : Int32 → Int32 → XT → YT → Prop) (Q : XT → YT → Prop) (a1 : Int32) (t0 : Int32) (X : XT) (Y : YT) : Prop :=
  vp_in a1 18 ∧ vp_in a1 18 ∧ PX7_add (X 46 a1.toNatClampNeg) (Y 47 a1.toNatClampNeg) t0 X Y (fun X2 Y3 => Q X2 Y3)
def BX5_takeReading_s (I5 : Int32 → Int32 → XT → YT → Prop) (I80 : Int32 → XT → YT → Prop) (I81 : Int32 → Int32 → XT → YT → Prop) (Q : XT → YT → Prop) (p0 : Int32) (X : XT) (Y : YT) : Prop :=
  ∀ w1 : Int32, w1 = (X 39 10) → I5 p0 w1 X Y
def PX5_takeReading (p0 : Int32) (X : XT) (Y : YT) (Q : XT → YT → Prop) : Prop := ∀ (I5 : Int32 → Int32 → XT → YT → Prop) (I80 : Int32 → XT → YT → Prop) (I81 : Int32 → Int32 → XT → YT → Prop), (∀ (a1 : Int32) (a2 : Int32) (X : XT) (Y : YT), BX5_takeReading_5 I5 I80 I81 Q a1 a2 X Y → I5 a1 a2 X Y) → (∀ (a1 : Int32) (X : XT) (Y : YT), BX5_takeReading_80 I5 I80 I81 Q a1 X Y → I80 a1 X Y) → (∀ (a1 : Int32) (t0 : Int32) (X : XT) (Y : YT), BX5_takeReading_81 I5 I80 I81 Q a1 t0 X Y → I81 a1 t0 X Y) → BX5_takeReading_s I5 I80 I81 Q p0 X Y
set_option maxHeartbeats 4000000 in
set_option maxRecDepth 100000 in
theorem kX5_takeReading_5 {Γ : Cxt} {Q : XT → YT → Prop} (O : Ok Γ RX5 cX5_takeReading 4 { frames := 1, cells := 0, slots := 0, locals := 24 }) (r : Ret Γ none (qV Q)) {I5 : Int32 → Int32 → XT → YT → Prop} {I80 : Int32 → XT → YT → Prop} {I81 : Int32 → Int32 → XT → YT → Prop} (e5 : ∀ (a1 : Int32) (a2 : Int32) (X : XT) (Y : YT), I5 a1 a2 X Y → V Γ 5 [(0, .ref 39), (1, .int a1), (2, .int a2)] [] X Y) (e80 : ∀ (a1 : Int32) (X : XT) (Y : YT), I80 a1 X Y → V Γ 80 [(0, .ref 39), (1, .int a1)] [] X Y) (e81 : ∀ (a1 : Int32) (t0 : Int32) (X : XT) (Y : YT), I81 a1 t0 X Y → V Γ 81 [(0, .ref 39), (1, .int a1)] [.int t0] X Y) {a1 : Int32} {a2 : Int32} {X : XT} {Y : YT} (h : BX5_takeReading_5 I5 I80 I81 Q a1 a2 X Y) : V Γ 5 [(0, .ref 39), (1, .int a1), (2, .int a2)] [] X Y := by
  refine v_iload_n O dX5_takeReading_5 rfl 2 rfl ?_
  refine v_iload_n O dX5_takeReading_6 rfl 1 rfl ?_
  refine v_icmp_gt (tgt := 36) O dX5_takeReading_7 (by decide) (fun g1 => ?_) (fun g1 => ?_)
  · refine v_aload_n O dX5_takeReading_36 rfl 0 rfl ?_
    refine v_iload_n O dX5_takeReading_37 rfl 1 rfl ?_
    refine v_iconst O dX5_takeReading_38 kc_1 ?_
    refine v_iadd O dX5_takeReading_39 ?_
    refine v_putI O dX5_takeReading_40 fo_X5_53 fp_5_10 sh_39 rfl rfl rfl ?_
    refine v_aload_n O dX5_takeReading_43 rfl 0 rfl ?_
    refine v_get O dX5_takeReading_44 fo_X5_12 sh_39 rfl rfl ?_
    refine v_get O dX5_takeReading_47 fo_X5_120 sh_40 rfl rfl ?_
    refine v_topi (fun w2 hw3 => ?_)
    refine v_istore_n (lv' := [(2, .int w2), (0, .ref 39), (1, .int a1)]) O dX5_takeReading_50 rfl (by decide) rfl ?_
    refine v_iload_n O dX5_takeReading_51 rfl 0 rfl ?_
    refine v_iconst O dX5_takeReading_52 kc_0 ?_
    refine v_iload_n O dX5_takeReading_53 rfl 2 rfl ?_
    refine v_callN (rm' := { frames := 0, cells := 0, slots := 0, locals := 0 }) (As := [.int w2, .int 0, .int a1]) (st := []) O dX5_takeReading_54 ci_X9_within ml_X5_123 ms_X9_within ⟨rfl, rfl, (by decide), (by decide)⟩ rfl (Nat.le_of_ble_eq_true rfl) rfl (mX9_within ((h.1 g1) w2 hw3)) (k_I (fun r4 X5 Y6 h7 => ?_))
    refine v_if_eq (tgt := 80) O dX5_takeReading_57 (by decide) (fun g8 => ?_) (fun g8 => ?_)
    · exact v_loc [1, 2] rfl (e80 a1 X5 Y6 (h7.1 g8))
    · refine v_aload_n O dX5_takeReading_60 rfl 1 rfl ?_
      refine v_get O dX5_takeReading_61 fo_X5_18 sh_39 rfl rfl ?_
      refine v_iload_n O dX5_takeReading_64 rfl 0 rfl ?_
      refine v_iald O dX5_takeReading_65 sh_42 (h7.2 g8).1 ?_
      refine v_aload_n O dX5_takeReading_66 rfl 1 rfl ?_
      refine v_get O dX5_takeReading_67 fo_X5_12 sh_39 rfl rfl ?_
      refine v_get O dX5_takeReading_70 fo_X5_127 sh_40 rfl rfl ?_
      refine v_icmp_ne (tgt := 80) O dX5_takeReading_73 (by decide) (fun g9 => ?_) (fun g9 => ?_)
      · exact v_loc [1, 2] rfl (e80 a1 X5 Y6 ((h7.2 g8).2.1 g9))
      · refine v_iconst O dX5_takeReading_76 kc_1 ?_
        refine v_goto O dX5_takeReading_77 (tgt := 81) (by decide) ?_
        exact v_loc [1, 2] rfl (e81 a1 1 X5 Y6 ((h7.2 g8).2.2 g9))
  · refine v_aload_n O dX5_takeReading_10 rfl 0 rfl ?_
    refine v_get O dX5_takeReading_11 fo_X5_12 sh_39 rfl rfl ?_
    refine v_get O dX5_takeReading_14 fo_X5_117 sh_40 rfl rfl ?_
    refine v_iload_n O dX5_takeReading_17 rfl 2 rfl ?_
    refine v_dup2 O dX5_takeReading_18 rfl rfl ?_
    refine v_iald O dX5_takeReading_19 sh_41 (h.2 g1).1 ?_
    refine v_iconst O dX5_takeReading_20 kc_1 ?_
    refine v_aload_n O dX5_takeReading_21 rfl 0 rfl ?_
    refine v_get O dX5_takeReading_22 fo_X5_18 sh_39 rfl rfl ?_
    refine v_iload_n O dX5_takeReading_25 rfl 2 rfl ?_
    refine v_iald O dX5_takeReading_26 sh_42 (h.2 g1).2.1 ?_
    refine v_ishl O dX5_takeReading_27 ?_
    refine v_ior O dX5_takeReading_28 ?_
    refine v_iast O dX5_takeReading_29 sh_41 (h.2 g1).2.2.1 ?_
    refine v_nmX (fun X10 hX11 => ?_)
    obtain ⟨w12, hw13⟩ : ∃ y : Int32, y = a2 + 1 := ⟨_, rfl⟩
    refine v_iinc (v := w12) (j := 2) O dX5_takeReading_30 rfl (by rw [hw13]; exact congrArg _ kc_1) (by decide) (lv' := [(2, .int w12), (0, .ref 39), (1, .int a1)]) rfl ?_
    refine v_goto O dX5_takeReading_33 (tgt := 5) (by decide) ?_
    exact v_loc [1, 2, 0] rfl (e5 a1 w12 X10 Y (((h.2 g1).2.2.2 X10 hX11) w12 hw13))
set_option maxHeartbeats 4000000 in
set_option maxRecDepth 100000 in
theorem kX5_takeReading_80 {Γ : Cxt} {Q : XT → YT → Prop} (O : Ok Γ RX5 cX5_takeReading 4 { frames := 1, cells := 0, slots := 0, locals := 24 }) (r : Ret Γ none (qV Q)) {I5 : Int32 → Int32 → XT → YT → Prop} {I80 : Int32 → XT → YT → Prop} {I81 : Int32 → Int32 → XT → YT → Prop} (e5 : ∀ (a1 : Int32) (a2 : Int32) (X : XT) (Y : YT), I5 a1 a2 X Y → V Γ 5 [(0, .ref 39), (1, .int a1), (2, .int a2)] [] X Y) (e80 : ∀ (a1 : Int32) (X : XT) (Y : YT), I80 a1 X Y → V Γ 80 [(0, .ref 39), (1, .int a1)] [] X Y) (e81 : ∀ (a1 : Int32) (t0 : Int32) (X : XT) (Y : YT), I81 a1 t0 X Y → V Γ 81 [(0, .ref 39), (1, .int a1)] [.int t0] X Y) {a1 : Int32} {X : XT} {Y : YT} (h : BX5_takeReading_80 I5 I80 I81 Q a1 X Y) : V Γ 80 [(0, .ref 39), (1, .int a1)] [] X Y := by
  refine v_iconst O dX5_takeReading_80 kc_0 ?_
  exact v_loc [0, 1] rfl (e81 a1 0 X Y h)
set_option maxHeartbeats 4000000 in
set_option maxRecDepth 100000 in
theorem kX5_takeReading_81 {Γ : Cxt} {Q : XT → YT → Prop} (O : Ok Γ RX5 cX5_takeReading 4 { frames := 1, cells := 0, slots := 0, locals := 24 }) (r : Ret Γ none (qV Q)) {I5 : Int32 → Int32 → XT → YT → Prop} {I80 : Int32 → XT → YT → Prop} {I81 : Int32 → Int32 → XT → YT → Prop} (e5 : ∀ (a1 : Int32) (a2 : Int32) (X : XT) (Y : YT), I5 a1 a2 X Y → V Γ 5 [(0, .ref 39), (1, .int a1), (2, .int a2)] [] X Y) (e80 : ∀ (a1 : Int32) (X : XT) (Y : YT), I80 a1 X Y → V Γ 80 [(0, .ref 39), (1, .int a1)] [] X Y) (e81 : ∀ (a1 : Int32) (t0 : Int32) (X : XT) (Y : YT), I81 a1 t0 X Y → V Γ 81 [(0, .ref 39), (1, .int a1)] [.int t0] X Y) {a1 : Int32} {t0 : Int32} {X : XT} {Y : YT} (h : BX5_takeReading_81 I5 I80 I81 Q a1 t0 X Y) : V Γ 81 [(0, .ref 39), (1, .int a1)] [.int t0] X Y := by
  refine v_istore_n (lv' := [(3, .int t0), (0, .ref 39), (1, .int a1)]) O dX5_takeReading_81 rfl (by decide) rfl ?_
  refine v_aload_n O dX5_takeReading_82 rfl 1 rfl ?_
  refine v_get O dX5_takeReading_83 fo_X5_12 sh_39 rfl rfl ?_
  refine v_aload_n O dX5_takeReading_86 rfl 1 rfl ?_
  refine v_get O dX5_takeReading_87 fo_X5_31 sh_39 rfl rfl ?_
  refine v_iload_n O dX5_takeReading_90 rfl 2 rfl ?_
  refine v_iald O dX5_takeReading_91 sh_46 h.1 ?_
  refine v_aload_n O dX5_takeReading_92 rfl 1 rfl ?_
  refine v_get O dX5_takeReading_93 fo_X5_34 sh_39 rfl rfl ?_
  refine v_iload_n O dX5_takeReading_96 rfl 2 rfl ?_
  refine v_lald O dX5_takeReading_97 sh_47 h.2.1 ?_
  refine v_iload_n O dX5_takeReading_98 rfl 0 rfl ?_
  refine v_callV (rm' := { frames := 0, cells := 0, slots := 0, locals := 0 }) (As := [.int (X 46 a1.toNatClampNeg), .long (Y 47 a1.toNatClampNeg), .int t0]) (st := []) O dX5_takeReading_99 ci_X7_add ml_X5_65 mi_X7_add sh_40 rfl ⟨rfl, rfl, (by decide), (by decide)⟩ rfl (Nat.le_of_ble_eq_true rfl) rfl (mX7_add h.2.2) (k_V (fun X2 Y3 h4 => ?_))
  exact v_vret O r dX5_takeReading_102 ⟨rfl, h4⟩
set_option maxHeartbeats 4000000 in
set_option maxRecDepth 100000 in
theorem kX5_takeReading_s {Γ : Cxt} {Q : XT → YT → Prop} (O : Ok Γ RX5 cX5_takeReading 4 { frames := 1, cells := 0, slots := 0, locals := 24 }) (r : Ret Γ none (qV Q)) {I5 : Int32 → Int32 → XT → YT → Prop} {I80 : Int32 → XT → YT → Prop} {I81 : Int32 → Int32 → XT → YT → Prop} (e5 : ∀ (a1 : Int32) (a2 : Int32) (X : XT) (Y : YT), I5 a1 a2 X Y → V Γ 5 [(0, .ref 39), (1, .int a1), (2, .int a2)] [] X Y) (e80 : ∀ (a1 : Int32) (X : XT) (Y : YT), I80 a1 X Y → V Γ 80 [(0, .ref 39), (1, .int a1)] [] X Y) (e81 : ∀ (a1 : Int32) (t0 : Int32) (X : XT) (Y : YT), I81 a1 t0 X Y → V Γ 81 [(0, .ref 39), (1, .int a1)] [.int t0] X Y) {p0 : Int32} {X : XT} {Y : YT} (h : BX5_takeReading_s I5 I80 I81 Q p0 X Y) : V Γ 0 [(0, .ref 39), (1, .int p0)] [] X Y := by
  refine v_aload_n O dX5_takeReading_0 rfl 0 rfl ?_
  refine v_get O dX5_takeReading_1 fo_X5_53 sh_39 rfl rfl ?_
  refine v_topi (fun w1 hw2 => ?_)
  refine v_istore_n (lv' := [(2, .int w1), (0, .ref 39), (1, .int p0)]) O dX5_takeReading_4 rfl (by decide) rfl ?_
  exact v_loc [1, 2, 0] rfl (e5 p0 w1 X Y (h w1 hw2))
set_option maxRecDepth 100000 in
theorem mX5_takeReading {Γ : Cxt} {p0 : Int32} {X : XT} {Y : YT} {Q : XT → YT → Prop} (h : PX5_takeReading p0 X Y Q) : MT Γ yX5_takeReading (.code yX5_takeReading cX5_takeReading 4 none :: wl) { frames := 1, cells := 0, slots := 0, locals := 24 } [.ref 39, .int p0] X Y (qV Q) :=
  mt_of (by decide) (Nat.le_of_ble_eq_true rfl) (fun Γ _ O r => kX5_takeReading_s O r (fun _ _ _ _ g => g) (fun _ _ _ g => g) (fun _ _ _ _ g => g) (h (fun a1 a2 X Y => V Γ 5 [(0, .ref 39), (1, .int a1), (2, .int a2)] [] X Y) (fun a1 X Y => V Γ 80 [(0, .ref 39), (1, .int a1)] [] X Y) (fun a1 t0 X Y => V Γ 81 [(0, .ref 39), (1, .int a1)] [.int t0] X Y) (fun _ _ _ _ g => kX5_takeReading_5 O r (fun _ _ _ _ g => g) (fun _ _ _ g => g) (fun _ _ _ _ g => g) g) (fun _ _ _ g => kX5_takeReading_80 O r (fun _ _ _ _ g => g) (fun _ _ _ g => g) (fun _ _ _ _ g => g) g) (fun _ _ _ _ g => kX5_takeReading_81 O r (fun _ _ _ _ g => g) (fun _ _ _ g => g) (fun _ _ _ _ g => g) g)))
theorem dX5_tryOn_0 : decode cX5_tryOn 0 = .ok (.aload_n 0, 1) := by decide +kernel
theorem dX5_tryOn_1 : decode cX5_tryOn 1 = .ok (.getfield 22, 3) := by decide +kernel
theorem dX5_tryOn_4 : decode cX5_tryOn 4 = .ok (.iload_n 1, 1) := by decide +kernel
theorem dX5_tryOn_5 : decode cX5_tryOn 5 = .ok (.iaload, 1) := by decide +kernel
theorem dX5_tryOn_6 : decode cX5_tryOn 6 = .ok (.istore_n 2, 1) := by decide +kernel
theorem dX5_tryOn_7 : decode cX5_tryOn 7 = .ok (.iload_n 2, 1) := by decide +kernel
theorem dX5_tryOn_8 : decode cX5_tryOn 8 = .ok (.aload_n 0, 1) := by decide +kernel
theorem dX5_tryOn_9 : decode cX5_tryOn 9 = .ok (.getfield 38, 3) := by decide +kernel
theorem dX5_tryOn_12 : decode cX5_tryOn 12 = .ok (.getfield 81, 3) := by decide +kernel
theorem dX5_tryOn_15 : decode cX5_tryOn 15 = .ok (.if_icmp .ge 22, 3) := by decide +kernel
theorem dX5_tryOn_18 : decode cX5_tryOn 18 = .ok (.aload_n 0, 1) := by decide +kernel
theorem dX5_tryOn_19 : decode cX5_tryOn 19 = .ok (.getfield 28, 3) := by decide +kernel
theorem dX5_tryOn_22 : decode cX5_tryOn 22 = .ok (.iload_n 1, 1) := by decide +kernel
theorem dX5_tryOn_23 : decode cX5_tryOn 23 = .ok (.iaload, 1) := by decide +kernel
theorem dX5_tryOn_24 : decode cX5_tryOn 24 = .ok (.iload_n 2, 1) := by decide +kernel
theorem dX5_tryOn_25 : decode cX5_tryOn 25 = .ok (.invokestatic 84, 3) := by decide +kernel
theorem dX5_tryOn_28 : decode cX5_tryOn 28 = .ok (.ifCond .ne 9, 3) := by decide +kernel
theorem dX5_tryOn_31 : decode cX5_tryOn 31 = .ok (.iinc 2 1, 3) := by decide +kernel
theorem dX5_tryOn_34 : decode cX5_tryOn 34 = .ok (.goto (-27), 3) := by decide +kernel
theorem dX5_tryOn_37 : decode cX5_tryOn 37 = .ok (.iload_n 2, 1) := by decide +kernel
theorem dX5_tryOn_38 : decode cX5_tryOn 38 = .ok (.iconst 1, 1) := by decide +kernel
theorem dX5_tryOn_39 : decode cX5_tryOn 39 = .ok (.iadd, 1) := by decide +kernel
theorem dX5_tryOn_40 : decode cX5_tryOn 40 = .ok (.aload_n 0, 1) := by decide +kernel
theorem dX5_tryOn_41 : decode cX5_tryOn 41 = .ok (.getfield 38, 3) := by decide +kernel
theorem dX5_tryOn_44 : decode cX5_tryOn 44 = .ok (.getfield 81, 3) := by decide +kernel
theorem dX5_tryOn_47 : decode cX5_tryOn 47 = .ok (.invokestatic 88, 3) := by decide +kernel
theorem dX5_tryOn_50 : decode cX5_tryOn 50 = .ok (.istore_n 3, 1) := by decide +kernel
theorem dX5_tryOn_51 : decode cX5_tryOn 51 = .ok (.aload_n 0, 1) := by decide +kernel
theorem dX5_tryOn_52 : decode cX5_tryOn 52 = .ok (.dup, 1) := by decide +kernel
theorem dX5_tryOn_53 : decode cX5_tryOn 53 = .ok (.getfield 49, 3) := by decide +kernel
theorem dX5_tryOn_56 : decode cX5_tryOn 56 = .ok (.iload_n 3, 1) := by decide +kernel
theorem dX5_tryOn_57 : decode cX5_tryOn 57 = .ok (.aload_n 0, 1) := by decide +kernel
theorem dX5_tryOn_58 : decode cX5_tryOn 58 = .ok (.getfield 22, 3) := by decide +kernel
theorem dX5_tryOn_61 : decode cX5_tryOn 61 = .ok (.iload_n 1, 1) := by decide +kernel
theorem dX5_tryOn_62 : decode cX5_tryOn 62 = .ok (.iaload, 1) := by decide +kernel
theorem dX5_tryOn_63 : decode cX5_tryOn 63 = .ok (.isub, 1) := by decide +kernel
theorem dX5_tryOn_64 : decode cX5_tryOn 64 = .ok (.iadd, 1) := by decide +kernel
theorem dX5_tryOn_65 : decode cX5_tryOn 65 = .ok (.putfield 49, 3) := by decide +kernel
theorem dX5_tryOn_68 : decode cX5_tryOn 68 = .ok (.aload_n 0, 1) := by decide +kernel
theorem dX5_tryOn_69 : decode cX5_tryOn 69 = .ok (.getfield 22, 3) := by decide +kernel
theorem dX5_tryOn_72 : decode cX5_tryOn 72 = .ok (.iload_n 1, 1) := by decide +kernel
theorem dX5_tryOn_73 : decode cX5_tryOn 73 = .ok (.iload_n 3, 1) := by decide +kernel
theorem dX5_tryOn_74 : decode cX5_tryOn 74 = .ok (.iastore, 1) := by decide +kernel
theorem dX5_tryOn_75 : decode cX5_tryOn 75 = .ok (.aload_n 0, 1) := by decide +kernel
theorem dX5_tryOn_76 : decode cX5_tryOn 76 = .ok (.aload_n 0, 1) := by decide +kernel
theorem dX5_tryOn_77 : decode cX5_tryOn 77 = .ok (.getfield 49, 3) := by decide +kernel
theorem dX5_tryOn_80 : decode cX5_tryOn 80 = .ok (.sipush 3000, 3) := by decide +kernel
theorem dX5_tryOn_83 : decode cX5_tryOn 83 = .ok (.if_icmp .le 7, 3) := by decide +kernel
theorem dX5_tryOn_86 : decode cX5_tryOn 86 = .ok (.iconst 1, 1) := by decide +kernel
theorem dX5_tryOn_87 : decode cX5_tryOn 87 = .ok (.goto 4, 3) := by decide +kernel
theorem dX5_tryOn_90 : decode cX5_tryOn 90 = .ok (.iconst 0, 1) := by decide +kernel
theorem dX5_tryOn_91 : decode cX5_tryOn 91 = .ok (.putfield 56, 3) := by decide +kernel
theorem dX5_tryOn_94 : decode cX5_tryOn 94 = .ok (.aload_n 0, 1) := by decide +kernel
theorem dX5_tryOn_95 : decode cX5_tryOn 95 = .ok (.getfield 56, 3) := by decide +kernel
theorem dX5_tryOn_98 : decode cX5_tryOn 98 = .ok (.ifCond .eq 5, 3) := by decide +kernel
theorem dX5_tryOn_101 : decode cX5_tryOn 101 = .ok (.iload_n 1, 1) := by decide +kernel
theorem dX5_tryOn_102 : decode cX5_tryOn 102 = .ok (.ireturn, 1) := by decide +kernel
theorem dX5_tryOn_103 : decode cX5_tryOn 103 = .ok (.iload_n 2, 1) := by decide +kernel
theorem dX5_tryOn_104 : decode cX5_tryOn 104 = .ok (.aload_n 0, 1) := by decide +kernel
theorem dX5_tryOn_105 : decode cX5_tryOn 105 = .ok (.getfield 38, 3) := by decide +kernel
theorem dX5_tryOn_108 : decode cX5_tryOn 108 = .ok (.getfield 81, 3) := by decide +kernel
theorem dX5_tryOn_111 : decode cX5_tryOn 111 = .ok (.if_icmp .lt 7, 3) := by decide +kernel
theorem dX5_tryOn_114 : decode cX5_tryOn 114 = .ok (.iload_n 1, 1) := by decide +kernel
theorem dX5_tryOn_115 : decode cX5_tryOn 115 = .ok (.iconst 1, 1) := by decide +kernel
theorem dX5_tryOn_116 : decode cX5_tryOn 116 = .ok (.isub, 1) := by decide +kernel
theorem dX5_tryOn_117 : decode cX5_tryOn 117 = .ok (.ireturn, 1) := by decide +kernel
theorem dX5_tryOn_118 : decode cX5_tryOn 118 = .ok (.aload_n 0, 1) := by decide +kernel
theorem dX5_tryOn_119 : decode cX5_tryOn 119 = .ok (.iload_n 1, 1) := by decide +kernel
theorem dX5_tryOn_120 : decode cX5_tryOn 120 = .ok (.iload_n 2, 1) := by decide +kernel
theorem dX5_tryOn_121 : decode cX5_tryOn 121 = .ok (.invokevirtual 94, 3) := by decide +kernel
theorem dX5_tryOn_124 : decode cX5_tryOn 124 = .ok (.iload_n 1, 1) := by decide +kernel
theorem dX5_tryOn_125 : decode cX5_tryOn 125 = .ok (.iconst 1, 1) := by decide +kernel
theorem dX5_tryOn_126 : decode cX5_tryOn 126 = .ok (.iadd, 1) := by decide +kernel
theorem dX5_tryOn_127 : decode cX5_tryOn 127 = .ok (.aload_n 0, 1) := by decide +kernel
theorem dX5_tryOn_128 : decode cX5_tryOn 128 = .ok (.getfield 42, 3) := by decide +kernel
theorem dX5_tryOn_131 : decode cX5_tryOn 131 = .ok (.getfield 60, 3) := by decide +kernel
theorem dX5_tryOn_134 : decode cX5_tryOn 134 = .ok (.if_icmp .ge 14, 3) := by decide +kernel
theorem dX5_tryOn_137 : decode cX5_tryOn 137 = .ok (.aload_n 0, 1) := by decide +kernel
theorem dX5_tryOn_138 : decode cX5_tryOn 138 = .ok (.iload_n 1, 1) := by decide +kernel
theorem dX5_tryOn_139 : decode cX5_tryOn 139 = .ok (.iconst 1, 1) := by decide +kernel
theorem dX5_tryOn_140 : decode cX5_tryOn 140 = .ok (.iadd, 1) := by decide +kernel
theorem dX5_tryOn_141 : decode cX5_tryOn 141 = .ok (.invokevirtual 69, 3) := by decide +kernel
theorem dX5_tryOn_144 : decode cX5_tryOn 144 = .ok (.iload_n 1, 1) := by decide +kernel
theorem dX5_tryOn_145 : decode cX5_tryOn 145 = .ok (.iconst 1, 1) := by decide +kernel
theorem dX5_tryOn_146 : decode cX5_tryOn 146 = .ok (.iadd, 1) := by decide +kernel
theorem dX5_tryOn_147 : decode cX5_tryOn 147 = .ok (.ireturn, 1) := by decide +kernel
theorem dX5_tryOn_148 : decode cX5_tryOn 148 = .ok (.aload_n 0, 1) := by decide +kernel
theorem dX5_tryOn_149 : decode cX5_tryOn 149 = .ok (.iload_n 1, 1) := by decide +kernel
theorem dX5_tryOn_150 : decode cX5_tryOn 150 = .ok (.invokevirtual 98, 3) := by decide +kernel
theorem dX5_tryOn_153 : decode cX5_tryOn 153 = .ok (.iload_n 1, 1) := by decide +kernel
theorem dX5_tryOn_154 : decode cX5_tryOn 154 = .ok (.ireturn, 1) := by decide +kernel
def BX5_tryOn_7 (I7 : Int32 → Int32 → XT → YT → Prop) (I37 : Int32 → Int32 → XT → YT → Prop) (I91 : Int32 → Int32 → Int32 → XT → YT → Prop) (Q : Int32 → XT → YT → Prop) (a1 : Int32) (a2 : Int32) (X : XT) (Y : YT) : Prop :=
  (((X 3 9) ≤ a2 → I37 a1 a2 X Y) ∧ (¬ (X 3 9) ≤ a2 → vp_in a1 18 ∧ PX9_has (X 45 a1.toNatClampNeg) a2 X Y (fun r2 X3 Y4 => ((¬ r2 = 0 → I37 a1 a2 X3 Y4) ∧ (r2 = 0 → ∀ w7 : Int32, w7 = a2 + 1 → I7 a1 w7 X3 Y4)))))
def BX5_tryOn_37 (I7 : Int32 → Int32 → XT → YT → Prop) (I37 : Int32 → Int32 → XT → YT → Prop) (I91 : Int32 → Int32 → Int32 → XT → YT → Prop) (Q : Int32 → XT → YT → Prop) (a1 : Int32) (a2 : Int32) (X : XT) (Y : YT) : Prop :=
  ∀ w1 : Int32, w1 = (if (X 3 9) < (a2 + 1) then (X 3 9) else (a2 + 1)) → vp_in a1 18 ∧ ∀ X3 : XT, X3 = sX X 39 9 ((X 39 9) + (w1 - (X 43 a1.toNatClampNeg))) → vp_in a1 18 ∧ ((((sX X3 43 a1.toNatClampNeg w1) 39 9) ≤ 3000 → I91 a1 a2 0 (sX X3 43 a1.toNatClampNeg w1) Y) ∧ (¬ ((sX X3 43 a1.toNatClampNeg w1) 39 9) ≤ 3000 → I91 a1 a2 1 (sX X3 43 a1.toNatClampNeg w1) Y))
def BX5_tryOn_91 (I7 : Int32 → Int32 → XT → YT → Prop) (I37 : Int32 → Int32 → XT → YT → Prop) (I91 : Int32 → Int32 → Int32 → XT → YT → Prop) (Q : Int32 → XT → YT → Prop) (a1 : Int32) (a2 : Int32) (t0 : Int32) (X : XT) (Y : YT) : Prop :=
  (narrow .boolean (.int t0) = .int t0 ∧ fits .boolean (.int t0) = true) ∧ ((((sX X 39 11 t0) 39 11) = 0 → ((a2 < ((sX X 39 11 t0) 3 9) → PX5_give a1 a2 (sX X 39 11 t0) Y (fun X4 Y5 => (((X4 31 3) ≤ (a1 + 1) → PX5_takeReading a1 X4 Y5 (fun X9 Y10 => Q a1 X9 Y10)) ∧ (¬ (X4 31 3) ≤ (a1 + 1) → PX5_enter (a1 + 1) X4 Y5 (fun X13 Y14 => Q (a1 + 1) X13 Y14))))) ∧ (¬ a2 < ((sX X 39 11 t0) 3 9) → Q (a1 - 1) (sX X 39 11 t0) Y))) ∧ (¬ ((sX X 39 11 t0) 39 11) = 0 → Q a1 (sX X 39 11 t0) Y))
def BX5_tryOn_s (I7 : Int32 → Int32 → XT → YT → Prop) (I37 : Int32 → Int32 → XT → YT → Prop) (I91 : Int32 → Int32 → Int32 → XT → YT → Prop) (Q : Int32 → XT → YT → Prop) (p0 : Int32) (X : XT) (Y : YT) : Prop :=
  vp_in p0 18 ∧ ∀ w1 : Int32, w1 = (X 43 p0.toNatClampNeg) → I7 p0 w1 X Y
def PX5_tryOn (p0 : Int32) (X : XT) (Y : YT) (Q : Int32 → XT → YT → Prop) : Prop := ∀ (I7 : Int32 → Int32 → XT → YT → Prop) (I37 : Int32 → Int32 → XT → YT → Prop) (I91 : Int32 → Int32 → Int32 → XT → YT → Prop), (∀ (a1 : Int32) (a2 : Int32) (X : XT) (Y : YT), BX5_tryOn_7 I7 I37 I91 Q a1 a2 X Y → I7 a1 a2 X Y) → (∀ (a1 : Int32) (a2 : Int32) (X : XT) (Y : YT), BX5_tryOn_37 I7 I37 I91 Q a1 a2 X Y → I37 a1 a2 X Y) → (∀ (a1 : Int32) (a2 : Int32) (t0 : Int32) (X : XT) (Y : YT), BX5_tryOn_91 I7 I37 I91 Q a1 a2 t0 X Y → I91 a1 a2 t0 X Y) → BX5_tryOn_s I7 I37 I91 Q p0 X Y
set_option maxHeartbeats 4000000 in
set_option maxRecDepth 100000 in
theorem kX5_tryOn_7 {Γ : Cxt} {Q : Int32 → XT → YT → Prop} (O : Ok Γ RX5 cX5_tryOn 4 { frames := 2, cells := 0, slots := 0, locals := 47 }) (r : Ret Γ (some .int) (qI Q)) {I7 : Int32 → Int32 → XT → YT → Prop} {I37 : Int32 → Int32 → XT → YT → Prop} {I91 : Int32 → Int32 → Int32 → XT → YT → Prop} (e7 : ∀ (a1 : Int32) (a2 : Int32) (X : XT) (Y : YT), I7 a1 a2 X Y → V Γ 7 [(0, .ref 39), (1, .int a1), (2, .int a2)] [] X Y) (e37 : ∀ (a1 : Int32) (a2 : Int32) (X : XT) (Y : YT), I37 a1 a2 X Y → V Γ 37 [(0, .ref 39), (1, .int a1), (2, .int a2)] [] X Y) (e91 : ∀ (a1 : Int32) (a2 : Int32) (t0 : Int32) (X : XT) (Y : YT), I91 a1 a2 t0 X Y → V Γ 91 [(0, .ref 39), (1, .int a1), (2, .int a2)] [.int t0, .ref 39] X Y) {a1 : Int32} {a2 : Int32} {X : XT} {Y : YT} (h : BX5_tryOn_7 I7 I37 I91 Q a1 a2 X Y) : V Γ 7 [(0, .ref 39), (1, .int a1), (2, .int a2)] [] X Y := by
  refine v_iload_n O dX5_tryOn_7 rfl 2 rfl ?_
  refine v_aload_n O dX5_tryOn_8 rfl 0 rfl ?_
  refine v_get O dX5_tryOn_9 fo_X5_38 sh_39 rfl rfl ?_
  refine v_get O dX5_tryOn_12 fo_X5_81 sh_3 rfl rfl ?_
  refine v_icmp_ge (tgt := 37) O dX5_tryOn_15 (by decide) (fun g1 => ?_) (fun g1 => ?_)
  · exact v_loc [0, 1, 2] rfl (e37 a1 a2 X Y (h.1 g1))
  · refine v_aload_n O dX5_tryOn_18 rfl 0 rfl ?_
    refine v_get O dX5_tryOn_19 fo_X5_28 sh_39 rfl rfl ?_
    refine v_iload_n O dX5_tryOn_22 rfl 1 rfl ?_
    refine v_iald O dX5_tryOn_23 sh_45 (h.2 g1).1 ?_
    refine v_iload_n O dX5_tryOn_24 rfl 2 rfl ?_
    refine v_callN (rm' := { frames := 0, cells := 0, slots := 0, locals := 0 }) (As := [.int (X 45 a1.toNatClampNeg), .int a2]) (st := []) O dX5_tryOn_25 ci_X9_has ml_X5_84 ms_X9_has ⟨rfl, rfl, (by decide), (by decide)⟩ rfl (Nat.le_of_ble_eq_true rfl) rfl (mX9_has (h.2 g1).2) (k_I (fun r2 X3 Y4 h5 => ?_))
    refine v_if_ne (tgt := 37) O dX5_tryOn_28 (by decide) (fun g6 => ?_) (fun g6 => ?_)
    · exact v_loc [0, 1, 2] rfl (e37 a1 a2 X3 Y4 (h5.1 g6))
    · obtain ⟨w7, hw8⟩ : ∃ y : Int32, y = a2 + 1 := ⟨_, rfl⟩
      refine v_iinc (v := w7) (j := 2) O dX5_tryOn_31 rfl (by rw [hw8]; exact congrArg _ kc_1) (by decide) (lv' := [(2, .int w7), (0, .ref 39), (1, .int a1)]) rfl ?_
      refine v_goto O dX5_tryOn_34 (tgt := 7) (by decide) ?_
      exact v_loc [1, 2, 0] rfl (e7 a1 w7 X3 Y4 ((h5.2 g6) w7 hw8))
set_option maxHeartbeats 4000000 in
set_option maxRecDepth 100000 in
theorem kX5_tryOn_37 {Γ : Cxt} {Q : Int32 → XT → YT → Prop} (O : Ok Γ RX5 cX5_tryOn 4 { frames := 2, cells := 0, slots := 0, locals := 47 }) (r : Ret Γ (some .int) (qI Q)) {I7 : Int32 → Int32 → XT → YT → Prop} {I37 : Int32 → Int32 → XT → YT → Prop} {I91 : Int32 → Int32 → Int32 → XT → YT → Prop} (e7 : ∀ (a1 : Int32) (a2 : Int32) (X : XT) (Y : YT), I7 a1 a2 X Y → V Γ 7 [(0, .ref 39), (1, .int a1), (2, .int a2)] [] X Y) (e37 : ∀ (a1 : Int32) (a2 : Int32) (X : XT) (Y : YT), I37 a1 a2 X Y → V Γ 37 [(0, .ref 39), (1, .int a1), (2, .int a2)] [] X Y) (e91 : ∀ (a1 : Int32) (a2 : Int32) (t0 : Int32) (X : XT) (Y : YT), I91 a1 a2 t0 X Y → V Γ 91 [(0, .ref 39), (1, .int a1), (2, .int a2)] [.int t0, .ref 39] X Y) {a1 : Int32} {a2 : Int32} {X : XT} {Y : YT} (h : BX5_tryOn_37 I7 I37 I91 Q a1 a2 X Y) : V Γ 37 [(0, .ref 39), (1, .int a1), (2, .int a2)] [] X Y := by
  refine v_iload_n O dX5_tryOn_37 rfl 2 rfl ?_
  refine v_iconst O dX5_tryOn_38 kc_1 ?_
  refine v_iadd O dX5_tryOn_39 ?_
  refine v_aload_n O dX5_tryOn_40 rfl 0 rfl ?_
  refine v_get O dX5_tryOn_41 fo_X5_38 sh_39 rfl rfl ?_
  refine v_get O dX5_tryOn_44 fo_X5_81 sh_3 rfl rfl ?_
  refine v_min O dX5_tryOn_47 ml_X5_88 (by decide) (by show _ + 13 ≤ _; exact Nat.le_of_ble_eq_true rfl) ?_
  refine v_topi (fun w1 hw2 => ?_)
  refine v_istore_n (lv' := [(3, .int w1), (0, .ref 39), (1, .int a1), (2, .int a2)]) O dX5_tryOn_50 rfl (by decide) rfl ?_
  refine v_aload_n O dX5_tryOn_51 rfl 1 rfl ?_
  refine v_dup O dX5_tryOn_52 rfl ?_
  refine v_get O dX5_tryOn_53 fo_X5_49 sh_39 rfl rfl ?_
  refine v_iload_n O dX5_tryOn_56 rfl 0 rfl ?_
  refine v_aload_n O dX5_tryOn_57 rfl 1 rfl ?_
  refine v_get O dX5_tryOn_58 fo_X5_22 sh_39 rfl rfl ?_
  refine v_iload_n O dX5_tryOn_61 rfl 2 rfl ?_
  refine v_iald O dX5_tryOn_62 sh_43 (h w1 hw2).1 ?_
  refine v_isub O dX5_tryOn_63 ?_
  refine v_iadd O dX5_tryOn_64 ?_
  refine v_putI O dX5_tryOn_65 fo_X5_49 fp_5_9 sh_39 rfl rfl rfl ?_
  refine v_nmX (fun X3 hX4 => ?_)
  refine v_aload_n O dX5_tryOn_68 rfl 1 rfl ?_
  refine v_get O dX5_tryOn_69 fo_X5_22 sh_39 rfl rfl ?_
  refine v_iload_n O dX5_tryOn_72 rfl 2 rfl ?_
  refine v_iload_n O dX5_tryOn_73 rfl 0 rfl ?_
  refine v_iast O dX5_tryOn_74 sh_43 ((h w1 hw2).2 X3 hX4).1 ?_
  refine v_aload_n O dX5_tryOn_75 rfl 1 rfl ?_
  refine v_aload_n O dX5_tryOn_76 rfl 1 rfl ?_
  refine v_get O dX5_tryOn_77 fo_X5_49 sh_39 rfl rfl ?_
  refine v_sipush O dX5_tryOn_80 ks_3000 ?_
  refine v_icmp_le (tgt := 90) O dX5_tryOn_83 (by decide) (fun g5 => ?_) (fun g5 => ?_)
  · refine v_iconst O dX5_tryOn_90 kc_0 ?_
    exact v_loc [1, 2, 3] rfl (e91 a1 a2 0 (sX X3 43 a1.toNatClampNeg w1) Y (((h w1 hw2).2 X3 hX4).2.1 g5))
  · refine v_iconst O dX5_tryOn_86 kc_1 ?_
    refine v_goto O dX5_tryOn_87 (tgt := 91) (by decide) ?_
    exact v_loc [1, 2, 3] rfl (e91 a1 a2 1 (sX X3 43 a1.toNatClampNeg w1) Y (((h w1 hw2).2 X3 hX4).2.2 g5))
set_option maxHeartbeats 4000000 in
set_option maxRecDepth 100000 in
theorem kX5_tryOn_91 {Γ : Cxt} {Q : Int32 → XT → YT → Prop} (O : Ok Γ RX5 cX5_tryOn 4 { frames := 2, cells := 0, slots := 0, locals := 47 }) (r : Ret Γ (some .int) (qI Q)) {I7 : Int32 → Int32 → XT → YT → Prop} {I37 : Int32 → Int32 → XT → YT → Prop} {I91 : Int32 → Int32 → Int32 → XT → YT → Prop} (e7 : ∀ (a1 : Int32) (a2 : Int32) (X : XT) (Y : YT), I7 a1 a2 X Y → V Γ 7 [(0, .ref 39), (1, .int a1), (2, .int a2)] [] X Y) (e37 : ∀ (a1 : Int32) (a2 : Int32) (X : XT) (Y : YT), I37 a1 a2 X Y → V Γ 37 [(0, .ref 39), (1, .int a1), (2, .int a2)] [] X Y) (e91 : ∀ (a1 : Int32) (a2 : Int32) (t0 : Int32) (X : XT) (Y : YT), I91 a1 a2 t0 X Y → V Γ 91 [(0, .ref 39), (1, .int a1), (2, .int a2)] [.int t0, .ref 39] X Y) {a1 : Int32} {a2 : Int32} {t0 : Int32} {X : XT} {Y : YT} (h : BX5_tryOn_91 I7 I37 I91 Q a1 a2 t0 X Y) : V Γ 91 [(0, .ref 39), (1, .int a1), (2, .int a2)] [.int t0, .ref 39] X Y := by
  refine v_putI O dX5_tryOn_91 fo_X5_56 fp_5_11 sh_39 rfl h.1.1 h.1.2 ?_
  refine v_aload_n O dX5_tryOn_94 rfl 0 rfl ?_
  refine v_get O dX5_tryOn_95 fo_X5_56 sh_39 rfl rfl ?_
  refine v_if_eq (tgt := 103) O dX5_tryOn_98 (by decide) (fun g1 => ?_) (fun g1 => ?_)
  · refine v_iload_n O dX5_tryOn_103 rfl 2 rfl ?_
    refine v_aload_n O dX5_tryOn_104 rfl 0 rfl ?_
    refine v_get O dX5_tryOn_105 fo_X5_38 sh_39 rfl rfl ?_
    refine v_get O dX5_tryOn_108 fo_X5_81 sh_3 rfl rfl ?_
    refine v_icmp_lt (tgt := 118) O dX5_tryOn_111 (by decide) (fun g2 => ?_) (fun g2 => ?_)
    · refine v_aload_n O dX5_tryOn_118 rfl 0 rfl ?_
      refine v_iload_n O dX5_tryOn_119 rfl 1 rfl ?_
      refine v_iload_n O dX5_tryOn_120 rfl 2 rfl ?_
      refine v_callV (rm' := { frames := 1, cells := 0, slots := 0, locals := 21 }) (As := [.int a1, .int a2]) (st := []) O dX5_tryOn_121 ci_X5_give ml_X5_94 mi_X5_give sh_39 rfl ⟨rfl, rfl, (by decide), (by decide)⟩ rfl (Nat.le_of_ble_eq_true rfl) rfl (mX5_give ((h.2.1 g1).1 g2)) (k_V (fun X4 Y5 h6 => ?_))
      refine v_iload_n O dX5_tryOn_124 rfl 1 rfl ?_
      refine v_iconst O dX5_tryOn_125 kc_1 ?_
      refine v_iadd O dX5_tryOn_126 ?_
      refine v_aload_n O dX5_tryOn_127 rfl 0 rfl ?_
      refine v_get O dX5_tryOn_128 fo_X5_42 sh_39 rfl rfl ?_
      refine v_get O dX5_tryOn_131 fo_X5_60 sh_31 rfl rfl ?_
      refine v_icmp_ge (tgt := 148) O dX5_tryOn_134 (by decide) (fun g7 => ?_) (fun g7 => ?_)
      · refine v_aload_n O dX5_tryOn_148 rfl 0 rfl ?_
        refine v_iload_n O dX5_tryOn_149 rfl 1 rfl ?_
        refine v_callV (rm' := { frames := 1, cells := 0, slots := 0, locals := 24 }) (As := [.int a1]) (st := []) O dX5_tryOn_150 ci_X5_takeReading ml_X5_98 mi_X5_takeReading sh_39 rfl ⟨rfl, rfl, (by decide), (by decide)⟩ rfl (Nat.le_of_ble_eq_true rfl) rfl (mX5_takeReading (h6.1 g7)) (k_V (fun X9 Y10 h11 => ?_))
        refine v_iload_n O dX5_tryOn_153 rfl 1 rfl ?_
        exact v_iret O r dX5_tryOn_154 ⟨_, rfl, h11⟩
      · refine v_aload_n O dX5_tryOn_137 rfl 0 rfl ?_
        refine v_iload_n O dX5_tryOn_138 rfl 1 rfl ?_
        refine v_iconst O dX5_tryOn_139 kc_1 ?_
        refine v_iadd O dX5_tryOn_140 ?_
        refine v_callV (rm' := { frames := 1, cells := 0, slots := 0, locals := 21 }) (As := [.int (a1 + 1)]) (st := []) O dX5_tryOn_141 ci_X5_enter ml_X5_69 mi_X5_enter sh_39 rfl ⟨rfl, rfl, (by decide), (by decide)⟩ rfl (Nat.le_of_ble_eq_true rfl) rfl (mX5_enter (h6.2 g7)) (k_V (fun X13 Y14 h15 => ?_))
        refine v_iload_n O dX5_tryOn_144 rfl 1 rfl ?_
        refine v_iconst O dX5_tryOn_145 kc_1 ?_
        refine v_iadd O dX5_tryOn_146 ?_
        exact v_iret O r dX5_tryOn_147 ⟨_, rfl, h15⟩
    · refine v_iload_n O dX5_tryOn_114 rfl 1 rfl ?_
      refine v_iconst O dX5_tryOn_115 kc_1 ?_
      refine v_isub O dX5_tryOn_116 ?_
      exact v_iret O r dX5_tryOn_117 ⟨_, rfl, ((h.2.1 g1).2 g2)⟩
  · refine v_iload_n O dX5_tryOn_101 rfl 1 rfl ?_
    exact v_iret O r dX5_tryOn_102 ⟨_, rfl, (h.2.2 g1)⟩
set_option maxHeartbeats 4000000 in
set_option maxRecDepth 100000 in
theorem kX5_tryOn_s {Γ : Cxt} {Q : Int32 → XT → YT → Prop} (O : Ok Γ RX5 cX5_tryOn 4 { frames := 2, cells := 0, slots := 0, locals := 47 }) (r : Ret Γ (some .int) (qI Q)) {I7 : Int32 → Int32 → XT → YT → Prop} {I37 : Int32 → Int32 → XT → YT → Prop} {I91 : Int32 → Int32 → Int32 → XT → YT → Prop} (e7 : ∀ (a1 : Int32) (a2 : Int32) (X : XT) (Y : YT), I7 a1 a2 X Y → V Γ 7 [(0, .ref 39), (1, .int a1), (2, .int a2)] [] X Y) (e37 : ∀ (a1 : Int32) (a2 : Int32) (X : XT) (Y : YT), I37 a1 a2 X Y → V Γ 37 [(0, .ref 39), (1, .int a1), (2, .int a2)] [] X Y) (e91 : ∀ (a1 : Int32) (a2 : Int32) (t0 : Int32) (X : XT) (Y : YT), I91 a1 a2 t0 X Y → V Γ 91 [(0, .ref 39), (1, .int a1), (2, .int a2)] [.int t0, .ref 39] X Y) {p0 : Int32} {X : XT} {Y : YT} (h : BX5_tryOn_s I7 I37 I91 Q p0 X Y) : V Γ 0 [(0, .ref 39), (1, .int p0)] [] X Y := by
  refine v_aload_n O dX5_tryOn_0 rfl 0 rfl ?_
  refine v_get O dX5_tryOn_1 fo_X5_22 sh_39 rfl rfl ?_
  refine v_iload_n O dX5_tryOn_4 rfl 1 rfl ?_
  refine v_iald O dX5_tryOn_5 sh_43 h.1 ?_
  refine v_topi (fun w1 hw2 => ?_)
  refine v_istore_n (lv' := [(2, .int w1), (0, .ref 39), (1, .int p0)]) O dX5_tryOn_6 rfl (by decide) rfl ?_
  exact v_loc [1, 2, 0] rfl (e7 p0 w1 X Y (h.2 w1 hw2))
set_option maxRecDepth 100000 in
theorem mX5_tryOn {Γ : Cxt} {p0 : Int32} {X : XT} {Y : YT} {Q : Int32 → XT → YT → Prop} (h : PX5_tryOn p0 X Y Q) : MT Γ yX5_tryOn (.code yX5_tryOn cX5_tryOn 4 (some .int) :: wl) { frames := 2, cells := 0, slots := 0, locals := 47 } [.ref 39, .int p0] X Y (qI Q) :=
  mt_of (by decide) (Nat.le_of_ble_eq_true rfl) (fun Γ _ O r => kX5_tryOn_s O r (fun _ _ _ _ g => g) (fun _ _ _ _ g => g) (fun _ _ _ _ _ g => g) (h (fun a1 a2 X Y => V Γ 7 [(0, .ref 39), (1, .int a1), (2, .int a2)] [] X Y) (fun a1 a2 X Y => V Γ 37 [(0, .ref 39), (1, .int a1), (2, .int a2)] [] X Y) (fun a1 a2 t0 X Y => V Γ 91 [(0, .ref 39), (1, .int a1), (2, .int a2)] [.int t0, .ref 39] X Y) (fun _ _ _ _ g => kX5_tryOn_7 O r (fun _ _ _ _ g => g) (fun _ _ _ _ g => g) (fun _ _ _ _ _ g => g) g) (fun _ _ _ _ g => kX5_tryOn_37 O r (fun _ _ _ _ g => g) (fun _ _ _ _ g => g) (fun _ _ _ _ _ g => g) g) (fun _ _ _ _ _ g => kX5_tryOn_91 O r (fun _ _ _ _ g => g) (fun _ _ _ _ g => g) (fun _ _ _ _ _ g => g) g)))
def BJ7_fill_53178_41_5 (I5 : Int32 → Int32 → Int32 → XT → YT → Prop) (Q : XT → YT → Prop) (a1 : Int32) (a2 : Int32) (a3 : Int32) (X : XT) (Y : YT) : Prop :=
  ((a3 ≤ a2 → Q X Y) ∧ (¬ a3 ≤ a2 → vp_in a2 18 ∧ ∀ w2 : Int32, w2 = a2 + 1 → I5 a1 w2 a3 (sX X 41 a2.toNatClampNeg a1) Y))
def BJ7_fill_53178_41_s (I5 : Int32 → Int32 → Int32 → XT → YT → Prop) (Q : XT → YT → Prop) (p1 : Int32) (X : XT) (Y : YT) : Prop :=
  I5 p1 0 18 X Y
def PJ7_fill_53178_41 (p1 : Int32) (X : XT) (Y : YT) (Q : XT → YT → Prop) : Prop := ∀ (I5 : Int32 → Int32 → Int32 → XT → YT → Prop), (∀ (a1 : Int32) (a2 : Int32) (a3 : Int32) (X : XT) (Y : YT), BJ7_fill_53178_41_5 I5 Q a1 a2 a3 X Y → I5 a1 a2 a3 X Y) → BJ7_fill_53178_41_s I5 Q p1 X Y
set_option maxHeartbeats 4000000 in
set_option maxRecDepth 100000 in
theorem kJ7_fill_53178_41_5 {Γ : Cxt} {Q : XT → YT → Prop} (O : Ok Γ RJ7 cJ7_fill_53178 4 { frames := 0, cells := 0, slots := 0, locals := 0 }) (r : Ret Γ none (qV Q)) {I5 : Int32 → Int32 → Int32 → XT → YT → Prop} (e5 : ∀ (a1 : Int32) (a2 : Int32) (a3 : Int32) (X : XT) (Y : YT), I5 a1 a2 a3 X Y → V Γ 5 [(0, .ref 41), (1, .int a1), (2, .int a2), (3, .int a3)] [] X Y) {a1 : Int32} {a2 : Int32} {a3 : Int32} {X : XT} {Y : YT} (h : BJ7_fill_53178_41_5 I5 Q a1 a2 a3 X Y) : V Γ 5 [(0, .ref 41), (1, .int a1), (2, .int a2), (3, .int a3)] [] X Y := by
  refine v_iload_n O dJ7_fill_53178_5 rfl 2 rfl ?_
  refine v_iload_n O dJ7_fill_53178_6 rfl 3 rfl ?_
  refine v_icmp_ge (tgt := 20) O dJ7_fill_53178_7 (by decide) (fun g1 => ?_) (fun g1 => ?_)
  · exact v_vret O r dJ7_fill_53178_20 ⟨rfl, (h.1 g1)⟩
  · refine v_aload_n O dJ7_fill_53178_10 rfl 0 rfl ?_
    refine v_iload_n O dJ7_fill_53178_11 rfl 2 rfl ?_
    refine v_iload_n O dJ7_fill_53178_12 rfl 1 rfl ?_
    refine v_iast O dJ7_fill_53178_13 sh_41 (h.2 g1).1 ?_
    obtain ⟨w2, hw3⟩ : ∃ y : Int32, y = a2 + 1 := ⟨_, rfl⟩
    refine v_iinc (v := w2) (j := 2) O dJ7_fill_53178_14 rfl (by rw [hw3]; exact congrArg _ kc_1) (by decide) (lv' := [(2, .int w2), (0, .ref 41), (1, .int a1), (3, .int a3)]) rfl ?_
    refine v_goto O dJ7_fill_53178_17 (tgt := 5) (by decide) ?_
    exact v_loc [1, 2, 0, 3] rfl (e5 a1 w2 a3 (sX X 41 a2.toNatClampNeg a1) Y ((h.2 g1).2 w2 hw3))
set_option maxHeartbeats 4000000 in
set_option maxRecDepth 100000 in
theorem kJ7_fill_53178_41_s {Γ : Cxt} {Q : XT → YT → Prop} (O : Ok Γ RJ7 cJ7_fill_53178 4 { frames := 0, cells := 0, slots := 0, locals := 0 }) (r : Ret Γ none (qV Q)) {I5 : Int32 → Int32 → Int32 → XT → YT → Prop} (e5 : ∀ (a1 : Int32) (a2 : Int32) (a3 : Int32) (X : XT) (Y : YT), I5 a1 a2 a3 X Y → V Γ 5 [(0, .ref 41), (1, .int a1), (2, .int a2), (3, .int a3)] [] X Y) {p1 : Int32} {X : XT} {Y : YT} (h : BJ7_fill_53178_41_s I5 Q p1 X Y) : V Γ 0 [(0, .ref 41), (1, .int p1)] [] X Y := by
  refine v_iconst O dJ7_fill_53178_0 kc_0 ?_
  refine v_istore_n (lv' := [(2, .int 0), (0, .ref 41), (1, .int p1)]) O dJ7_fill_53178_1 rfl (by decide) rfl ?_
  refine v_aload_n O dJ7_fill_53178_2 rfl 1 rfl ?_
  refine v_alen O dJ7_fill_53178_3 sh_41 (v := 18) rfl ?_
  refine v_istore_n (lv' := [(3, .int 18), (2, .int 0), (0, .ref 41), (1, .int p1)]) O dJ7_fill_53178_4 rfl (by decide) rfl ?_
  exact v_loc [2, 3, 1, 0] rfl (e5 p1 0 18 X Y h)
set_option maxRecDepth 100000 in
theorem mJ7_fill_53178_41 {Γ : Cxt} {p1 : Int32} {X : XT} {Y : YT} {Q : XT → YT → Prop} (h : PJ7_fill_53178_41 p1 X Y Q) : MT Γ yJ7_fill_53178 (.code yJ7_fill_53178 cJ7_fill_53178 4 none :: wl) { frames := 0, cells := 0, slots := 0, locals := 0 } [.ref 41, .int p1] X Y (qV Q) :=
  mt_of (by decide) (Nat.le_of_ble_eq_true rfl) (fun Γ _ O r => kJ7_fill_53178_41_s O r (fun _ _ _ _ _ g => g) (h (fun a1 a2 a3 X Y => V Γ 5 [(0, .ref 41), (1, .int a1), (2, .int a2), (3, .int a3)] [] X Y) (fun _ _ _ _ _ g => kJ7_fill_53178_41_5 O r (fun _ _ _ _ _ g => g) g)))
theorem dX7_clear_0 : decode cX7_clear 0 = .ok (.aload_n 0, 1) := by decide +kernel
theorem dX7_clear_1 : decode cX7_clear 1 = .ok (.getfield 9, 3) := by decide +kernel
theorem dX7_clear_4 : decode cX7_clear 4 = .ok (.iconst 0, 1) := by decide +kernel
theorem dX7_clear_5 : decode cX7_clear 5 = .ok (.invokestatic 22, 3) := by decide +kernel
theorem dX7_clear_8 : decode cX7_clear 8 = .ok (.aload_n 0, 1) := by decide +kernel
theorem dX7_clear_9 : decode cX7_clear 9 = .ok (.iconst 0, 1) := by decide +kernel
theorem dX7_clear_10 : decode cX7_clear 10 = .ok (.putfield 28, 3) := by decide +kernel
theorem dX7_clear_13 : decode cX7_clear 13 = .ok (.aload_n 0, 1) := by decide +kernel
theorem dX7_clear_14 : decode cX7_clear 14 = .ok (.bipush 10, 2) := by decide +kernel
theorem dX7_clear_16 : decode cX7_clear 16 = .ok (.invokestatic 31, 3) := by decide +kernel
theorem dX7_clear_19 : decode cX7_clear 19 = .ok (.putfield 35, 3) := by decide +kernel
theorem dX7_clear_22 : decode cX7_clear 22 = .ok (.aload_n 0, 1) := by decide +kernel
theorem dX7_clear_23 : decode cX7_clear 23 = .ok (.lconst 0, 1) := by decide +kernel
theorem dX7_clear_24 : decode cX7_clear 24 = .ok (.putfield 38, 3) := by decide +kernel
theorem dX7_clear_27 : decode cX7_clear 27 = .ok (.aload_n 0, 1) := by decide +kernel
theorem dX7_clear_28 : decode cX7_clear 28 = .ok (.lconst 0, 1) := by decide +kernel
theorem dX7_clear_29 : decode cX7_clear 29 = .ok (.putfield 42, 3) := by decide +kernel
theorem dX7_clear_32 : decode cX7_clear 32 = .ok (.return_, 1) := by decide +kernel
def BX7_clear_s (Q : XT → YT → Prop) (X : XT) (Y : YT) : Prop :=
  PJ7_fill_53178_41 0 X Y (fun X2 Y3 => PX9_allBelow 10 (sX X2 40 1 0) Y3 (fun r5 X6 Y7 => ∀ Y9 : YT, Y9 = sY (sY Y7 40 3 (0 : Int64)) 40 4 (0 : Int64) → Q (sX X6 40 2 r5) Y9))
def PX7_clear (X : XT) (Y : YT) (Q : XT → YT → Prop) : Prop :=  BX7_clear_s Q X Y
set_option maxHeartbeats 4000000 in
set_option maxRecDepth 100000 in
theorem kX7_clear_s {Γ : Cxt} {Q : XT → YT → Prop} (O : Ok Γ RX7 cX7_clear 1 { frames := 1, cells := 0, slots := 0, locals := 23 }) (r : Ret Γ none (qV Q)) {X : XT} {Y : YT} (h : BX7_clear_s Q X Y) : V Γ 0 [(0, .ref 40)] [] X Y := by
  refine v_aload_n O dX7_clear_0 rfl 0 rfl ?_
  refine v_get O dX7_clear_1 fo_X7_9 sh_40 rfl rfl ?_
  refine v_iconst O dX7_clear_4 kc_0 ?_
  refine v_callS (rm' := { frames := 0, cells := 0, slots := 0, locals := 0 }) (As := [.ref 41, .int 0]) (st := []) O dX7_clear_5 ci_J7_fill_53178 ml_X7_22 ms_J7_fill_53178 ⟨rfl, rfl, (by decide), (by decide)⟩ rfl (Nat.le_of_ble_eq_true rfl) rfl (mJ7_fill_53178_41 h) (k_V (fun X2 Y3 h4 => ?_))
  refine v_aload_n O dX7_clear_8 rfl 0 rfl ?_
  refine v_iconst O dX7_clear_9 kc_0 ?_
  refine v_putI O dX7_clear_10 fo_X7_28 fp_7_1 sh_40 rfl rfl rfl ?_
  refine v_aload_n O dX7_clear_13 rfl 0 rfl ?_
  refine v_bipush O dX7_clear_14 kb_10 ?_
  refine v_callN (rm' := { frames := 0, cells := 0, slots := 0, locals := 0 }) (As := [.int 10]) (st := [.ref 40]) O dX7_clear_16 ci_X9_allBelow ml_X7_31 ms_X9_allBelow ⟨rfl, rfl, (by decide), (by decide)⟩ rfl (Nat.le_of_ble_eq_true rfl) rfl (mX9_allBelow h4) (k_I (fun r5 X6 Y7 h8 => ?_))
  refine v_putI O dX7_clear_19 fo_X7_35 fp_7_2 sh_40 rfl rfl rfl ?_
  refine v_aload_n O dX7_clear_22 rfl 0 rfl ?_
  refine v_lconst O dX7_clear_23 (v := 0) (by decide) ?_
  refine v_putL O dX7_clear_24 fo_X7_38 fp_7_3 sh_40 rfl ?_
  refine v_aload_n O dX7_clear_27 rfl 0 rfl ?_
  refine v_lconst O dX7_clear_28 (v := 0) (by decide) ?_
  refine v_putL O dX7_clear_29 fo_X7_42 fp_7_4 sh_40 rfl ?_
  refine v_nmY (fun Y9 hY10 => ?_)
  exact v_vret O r dX7_clear_32 ⟨rfl, (h8 Y9 hY10)⟩
set_option maxRecDepth 100000 in
theorem mX7_clear {Γ : Cxt} {X : XT} {Y : YT} {Q : XT → YT → Prop} (h : PX7_clear X Y Q) : MT Γ yX7_clear (.code yX7_clear cX7_clear 1 none :: wl) { frames := 1, cells := 0, slots := 0, locals := 23 } [.ref 40] X Y (qV Q) :=
  mt_of (by decide) (Nat.le_of_ble_eq_true rfl) (fun Γ _ O r => kX7_clear_s O r  (h ))
