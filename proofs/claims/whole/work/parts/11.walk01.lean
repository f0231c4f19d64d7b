theorem dX1_isKnown_0 : decode cX1_isKnown 0 = .ok (.iload_n 1, 1) := by decide +kernel
theorem dX1_isKnown_1 : decode cX1_isKnown 1 = .ok (.iconst 0, 1) := by decide +kernel
theorem dX1_isKnown_2 : decode cX1_isKnown 2 = .ok (.aload_n 0, 1) := by decide +kernel
theorem dX1_isKnown_3 : decode cX1_isKnown 3 = .ok (.getfield 39, 3) := by decide +kernel
theorem dX1_isKnown_6 : decode cX1_isKnown 6 = .ok (.iconst 1, 1) := by decide +kernel
theorem dX1_isKnown_7 : decode cX1_isKnown 7 = .ok (.isub, 1) := by decide +kernel
theorem dX1_isKnown_8 : decode cX1_isKnown 8 = .ok (.invokestatic 49, 3) := by decide +kernel
theorem dX1_isKnown_11 : decode cX1_isKnown 11 = .ok (.ireturn, 1) := by decide +kernel
def BX1_isKnown_s (Q : Int32 → XT → YT → Prop) (p0 : Int32) (X : XT) (Y : YT) : Prop :=
  PX9_within p0 0 ((X 3 9) - 1) X Y (fun r1 X2 Y3 => narrow .boolean (.int r1) = .int r1 ∧ Q r1 X2 Y3)
def PX1_isKnown (p0 : Int32) (X : XT) (Y : YT) (Q : Int32 → XT → YT → Prop) : Prop :=  BX1_isKnown_s Q p0 X Y
set_option maxHeartbeats 4000000 in
set_option maxRecDepth 100000 in
theorem kX1_isKnown_s {Γ : Cxt} {Q : Int32 → XT → YT → Prop} (O : Ok Γ RX1 cX1_isKnown 2 { frames := 1, cells := 0, slots := 0, locals := 22 }) (r : Ret Γ (some .boolean) (qI Q)) {p0 : Int32} {X : XT} {Y : YT} (h : BX1_isKnown_s Q p0 X Y) : V Γ 0 [(0, .ref 3), (1, .int p0)] [] X Y := by
  refine v_iload_n O dX1_isKnown_0 rfl 1 rfl ?_
  refine v_iconst O dX1_isKnown_1 kc_0 ?_
  refine v_aload_n O dX1_isKnown_2 rfl 0 rfl ?_
  refine v_get O dX1_isKnown_3 fo_X1_39 sh_3 rfl rfl ?_
  refine v_iconst O dX1_isKnown_6 kc_1 ?_
  refine v_isub O dX1_isKnown_7 ?_
  refine v_callN (rm' := { frames := 0, cells := 0, slots := 0, locals := 0 }) (As := [.int p0, .int 0, .int ((X 3 9) - 1)]) (st := []) O dX1_isKnown_8 ci_X9_within ml_X1_49 ms_X9_within ⟨rfl, rfl, (by decide), (by decide)⟩ rfl (Nat.le_of_ble_eq_true rfl) rfl (mX9_within h) (k_I (fun r1 X2 Y3 h4 => ?_))
  exact v_zret O r dX1_isKnown_11 h4.1 ⟨_, rfl, h4.2⟩
set_option maxRecDepth 100000 in
theorem mX1_isKnown {Γ : Cxt} {p0 : Int32} {X : XT} {Y : YT} {Q : Int32 → XT → YT → Prop} (h : PX1_isKnown p0 X Y Q) : MT Γ yX1_isKnown (.code yX1_isKnown cX1_isKnown 2 (some .boolean) :: wl) { frames := 1, cells := 0, slots := 0, locals := 22 } [.ref 3, .int p0] X Y (qI Q) :=
  mt_of (by decide) (Nat.le_of_ble_eq_true rfl) (fun Γ _ O r => kX1_isKnown_s O r  (h ))
theorem dX9_allBelow_0 : decode cX9_allBelow 0 = .ok (.iconst 1, 1) := by decide +kernel
theorem dX9_allBelow_1 : decode cX9_allBelow 1 = .ok (.iload_n 0, 1) := by decide +kernel
theorem dX9_allBelow_2 : decode cX9_allBelow 2 = .ok (.ishl, 1) := by decide +kernel
theorem dX9_allBelow_3 : decode cX9_allBelow 3 = .ok (.iconst 1, 1) := by decide +kernel
theorem dX9_allBelow_4 : decode cX9_allBelow 4 = .ok (.isub, 1) := by decide +kernel
theorem dX9_allBelow_5 : decode cX9_allBelow 5 = .ok (.ireturn, 1) := by decide +kernel
def BX9_allBelow_s (Q : Int32 → XT → YT → Prop) (p0 : Int32) (X : XT) (Y : YT) : Prop :=
  Q ((1 <<< (p0 &&& 31)) - 1) X Y
def PX9_allBelow (p0 : Int32) (X : XT) (Y : YT) (Q : Int32 → XT → YT → Prop) : Prop :=  BX9_allBelow_s Q p0 X Y
set_option maxHeartbeats 4000000 in
set_option maxRecDepth 100000 in
theorem kX9_allBelow_s {Γ : Cxt} {Q : Int32 → XT → YT → Prop} (O : Ok Γ RX9 cX9_allBelow 1 { frames := 0, cells := 0, slots := 0, locals := 0 }) (r : Ret Γ (some .int) (qI Q)) {p0 : Int32} {X : XT} {Y : YT} (h : BX9_allBelow_s Q p0 X Y) : V Γ 0 [(0, .int p0)] [] X Y := by
  refine v_iconst O dX9_allBelow_0 kc_1 ?_
  refine v_iload_n O dX9_allBelow_1 rfl 0 rfl ?_
  refine v_ishl O dX9_allBelow_2 ?_
  refine v_iconst O dX9_allBelow_3 kc_1 ?_
  refine v_isub O dX9_allBelow_4 ?_
  exact v_iret O r dX9_allBelow_5 ⟨_, rfl, h⟩
set_option maxRecDepth 100000 in
theorem mX9_allBelow {Γ : Cxt} {p0 : Int32} {X : XT} {Y : YT} {Q : Int32 → XT → YT → Prop} (h : PX9_allBelow p0 X Y Q) : MT Γ yX9_allBelow (.code yX9_allBelow cX9_allBelow 1 (some .int) :: wl) { frames := 0, cells := 0, slots := 0, locals := 0 } [.int p0] X Y (qI Q) :=
  mt_of (by decide) (Nat.le_of_ble_eq_true rfl) (fun Γ _ O r => kX9_allBelow_s O r  (h ))
theorem dX1_areKnown_0 : decode cX1_areKnown 0 = .ok (.iload_n 1, 1) := by decide +kernel
theorem dX1_areKnown_1 : decode cX1_areKnown 1 = .ok (.aload_n 0, 1) := by decide +kernel
theorem dX1_areKnown_2 : decode cX1_areKnown 2 = .ok (.getfield 39, 3) := by decide +kernel
theorem dX1_areKnown_5 : decode cX1_areKnown 5 = .ok (.invokestatic 53, 3) := by decide +kernel
theorem dX1_areKnown_8 : decode cX1_areKnown 8 = .ok (.iconst (-1), 1) := by decide +kernel
theorem dX1_areKnown_9 : decode cX1_areKnown 9 = .ok (.ixor, 1) := by decide +kernel
theorem dX1_areKnown_10 : decode cX1_areKnown 10 = .ok (.iand, 1) := by decide +kernel
theorem dX1_areKnown_11 : decode cX1_areKnown 11 = .ok (.ifCond .ne 7, 3) := by decide +kernel
theorem dX1_areKnown_14 : decode cX1_areKnown 14 = .ok (.iconst 1, 1) := by decide +kernel
theorem dX1_areKnown_15 : decode cX1_areKnown 15 = .ok (.goto 4, 3) := by decide +kernel
theorem dX1_areKnown_18 : decode cX1_areKnown 18 = .ok (.iconst 0, 1) := by decide +kernel
theorem dX1_areKnown_19 : decode cX1_areKnown 19 = .ok (.ireturn, 1) := by decide +kernel
def BX1_areKnown_s (Q : Int32 → XT → YT → Prop) (p0 : Int32) (X : XT) (Y : YT) : Prop :=
  PX9_allBelow (X 3 9) X Y (fun r1 X2 Y3 => ((¬ (p0 &&& (r1 ^^^ (-1))) = 0 → Q 0 X2 Y3) ∧ ((p0 &&& (r1 ^^^ (-1))) = 0 → Q 1 X2 Y3)))
def PX1_areKnown (p0 : Int32) (X : XT) (Y : YT) (Q : Int32 → XT → YT → Prop) : Prop :=  BX1_areKnown_s Q p0 X Y
set_option maxHeartbeats 4000000 in
set_option maxRecDepth 100000 in
theorem kX1_areKnown_s {Γ : Cxt} {Q : Int32 → XT → YT → Prop} (O : Ok Γ RX1 cX1_areKnown 2 { frames := 1, cells := 0, slots := 0, locals := 20 }) (r : Ret Γ (some .boolean) (qI Q)) {p0 : Int32} {X : XT} {Y : YT} (h : BX1_areKnown_s Q p0 X Y) : V Γ 0 [(0, .ref 3), (1, .int p0)] [] X Y := by
  refine v_iload_n O dX1_areKnown_0 rfl 1 rfl ?_
  refine v_aload_n O dX1_areKnown_1 rfl 0 rfl ?_
  refine v_get O dX1_areKnown_2 fo_X1_39 sh_3 rfl rfl ?_
  refine v_callN (rm' := { frames := 0, cells := 0, slots := 0, locals := 0 }) (As := [.int (X 3 9)]) (st := [.int p0]) O dX1_areKnown_5 ci_X9_allBelow ml_X1_53 ms_X9_allBelow ⟨rfl, rfl, (by decide), (by decide)⟩ rfl (Nat.le_of_ble_eq_true rfl) rfl (mX9_allBelow h) (k_I (fun r1 X2 Y3 h4 => ?_))
  refine v_iconst O dX1_areKnown_8 kc_m1 ?_
  refine v_ixor O dX1_areKnown_9 ?_
  refine v_iand O dX1_areKnown_10 ?_
  refine v_if_ne (tgt := 18) O dX1_areKnown_11 (by decide) (fun g5 => ?_) (fun g5 => ?_)
  · refine v_iconst O dX1_areKnown_18 kc_0 ?_
    exact v_zret O r dX1_areKnown_19 (by decide) ⟨_, rfl, (h4.1 g5)⟩
  · refine v_iconst O dX1_areKnown_14 kc_1 ?_
    refine v_goto O dX1_areKnown_15 (tgt := 19) (by decide) ?_
    exact v_zret O r dX1_areKnown_19 (by decide) ⟨_, rfl, (h4.2 g5)⟩
set_option maxRecDepth 100000 in
theorem mX1_areKnown {Γ : Cxt} {p0 : Int32} {X : XT} {Y : YT} {Q : Int32 → XT → YT → Prop} (h : PX1_areKnown p0 X Y Q) : MT Γ yX1_areKnown (.code yX1_areKnown cX1_areKnown 2 (some .boolean) :: wl) { frames := 1, cells := 0, slots := 0, locals := 20 } [.ref 3, .int p0] X Y (qI Q) :=
  mt_of (by decide) (Nat.le_of_ble_eq_true rfl) (fun Γ _ O r => kX1_areKnown_s O r  (h ))
theorem dX1_measureName_0 : decode cX1_measureName 0 = .ok (.iconst 0, 1) := by decide +kernel
theorem dX1_measureName_1 : decode cX1_measureName 1 = .ok (.istore_n 3, 1) := by decide +kernel
theorem dX1_measureName_2 : decode cX1_measureName 2 = .ok (.iconst 0, 1) := by decide +kernel
theorem dX1_measureName_3 : decode cX1_measureName 3 = .ok (.istore 4, 2) := by decide +kernel
theorem dX1_measureName_5 : decode cX1_measureName 5 = .ok (.iload 4, 2) := by decide +kernel
theorem dX1_measureName_7 : decode cX1_measureName 7 = .ok (.aload_n 0, 1) := by decide +kernel
theorem dX1_measureName_8 : decode cX1_measureName 8 = .ok (.getfield 18, 3) := by decide +kernel
theorem dX1_measureName_11 : decode cX1_measureName 11 = .ok (.iload_n 1, 1) := by decide +kernel
theorem dX1_measureName_12 : decode cX1_measureName 12 = .ok (.iaload, 1) := by decide +kernel
theorem dX1_measureName_13 : decode cX1_measureName 13 = .ok (.if_icmp .ge 34, 3) := by decide +kernel
theorem dX1_measureName_16 : decode cX1_measureName 16 = .ok (.iload_n 3, 1) := by decide +kernel
theorem dX1_measureName_17 : decode cX1_measureName 17 = .ok (.aload_n 0, 1) := by decide +kernel
theorem dX1_measureName_18 : decode cX1_measureName 18 = .ok (.getfield 9, 3) := by decide +kernel
theorem dX1_measureName_21 : decode cX1_measureName 21 = .ok (.iload_n 2, 1) := by decide +kernel
theorem dX1_measureName_22 : decode cX1_measureName 22 = .ok (.bipush 26, 2) := by decide +kernel
theorem dX1_measureName_24 : decode cX1_measureName 24 = .ok (.imul, 1) := by decide +kernel
theorem dX1_measureName_25 : decode cX1_measureName 25 = .ok (.aload_n 0, 1) := by decide +kernel
theorem dX1_measureName_26 : decode cX1_measureName 26 = .ok (.getfield 15, 3) := by decide +kernel
theorem dX1_measureName_29 : decode cX1_measureName 29 = .ok (.iload_n 1, 1) := by decide +kernel
theorem dX1_measureName_30 : decode cX1_measureName 30 = .ok (.bipush 12, 2) := by decide +kernel
theorem dX1_measureName_32 : decode cX1_measureName 32 = .ok (.imul, 1) := by decide +kernel
theorem dX1_measureName_33 : decode cX1_measureName 33 = .ok (.iload 4, 2) := by decide +kernel
theorem dX1_measureName_35 : decode cX1_measureName 35 = .ok (.iadd, 1) := by decide +kernel
theorem dX1_measureName_36 : decode cX1_measureName 36 = .ok (.iaload, 1) := by decide +kernel
theorem dX1_measureName_37 : decode cX1_measureName 37 = .ok (.iadd, 1) := by decide +kernel
theorem dX1_measureName_38 : decode cX1_measureName 38 = .ok (.iaload, 1) := by decide +kernel
theorem dX1_measureName_39 : decode cX1_measureName 39 = .ok (.iadd, 1) := by decide +kernel
theorem dX1_measureName_40 : decode cX1_measureName 40 = .ok (.istore_n 3, 1) := by decide +kernel
theorem dX1_measureName_41 : decode cX1_measureName 41 = .ok (.iinc 4 1, 3) := by decide +kernel
theorem dX1_measureName_44 : decode cX1_measureName 44 = .ok (.goto (-39), 3) := by decide +kernel
theorem dX1_measureName_47 : decode cX1_measureName 47 = .ok (.aload_n 0, 1) := by decide +kernel
theorem dX1_measureName_48 : decode cX1_measureName 48 = .ok (.getfield 21, 3) := by decide +kernel
theorem dX1_measureName_51 : decode cX1_measureName 51 = .ok (.iload_n 2, 1) := by decide +kernel
theorem dX1_measureName_52 : decode cX1_measureName 52 = .ok (.bipush 10, 2) := by decide +kernel
theorem dX1_measureName_54 : decode cX1_measureName 54 = .ok (.imul, 1) := by decide +kernel
theorem dX1_measureName_55 : decode cX1_measureName 55 = .ok (.iload_n 1, 1) := by decide +kernel
theorem dX1_measureName_56 : decode cX1_measureName 56 = .ok (.iadd, 1) := by decide +kernel
theorem dX1_measureName_57 : decode cX1_measureName 57 = .ok (.iload_n 3, 1) := by decide +kernel
theorem dX1_measureName_58 : decode cX1_measureName 58 = .ok (.iastore, 1) := by decide +kernel
theorem dX1_measureName_59 : decode cX1_measureName 59 = .ok (.return_, 1) := by decide +kernel
def BX1_measureName_5 (I5 : Int32 → Int32 → Int32 → Int32 → XT → YT → Prop) (Q : XT → YT → Prop) (a1 : Int32) (a2 : Int32) (a3 : Int32) (a4 : Int32) (X : XT) (Y : YT) : Prop :=
  vp_in a1 10 ∧ (((X 6 a1.toNatClampNeg) ≤ a4 → vp_in ((a2 * 10) + a1) 20 ∧ Q (sX X 7 ((a2 * 10) + a1).toNatClampNeg a3) Y) ∧ (¬ (X 6 a1.toNatClampNeg) ≤ a4 → vp_in ((a1 * 12) + a4) 120 ∧ vp_in ((a2 * 26) + (X 5 ((a1 * 12) + a4).toNatClampNeg)) 52 ∧ ∀ w2 : Int32, w2 = (a3 + (X 4 ((a2 * 26) + (X 5 ((a1 * 12) + a4).toNatClampNeg)).toNatClampNeg)) → ∀ w4 : Int32, w4 = a4 + 1 → I5 a1 a2 w2 w4 X Y))
def BX1_measureName_s (I5 : Int32 → Int32 → Int32 → Int32 → XT → YT → Prop) (Q : XT → YT → Prop) (p0 : Int32) (p1 : Int32) (X : XT) (Y : YT) : Prop :=
  I5 p0 p1 0 0 X Y
def PX1_measureName (p0 : Int32) (p1 : Int32) (X : XT) (Y : YT) (Q : XT → YT → Prop) : Prop := ∀ (I5 : Int32 → Int32 → Int32 → Int32 → XT → YT → Prop), (∀ (a1 : Int32) (a2 : Int32) (a3 : Int32) (a4 : Int32) (X : XT) (Y : YT), BX1_measureName_5 I5 Q a1 a2 a3 a4 X Y → I5 a1 a2 a3 a4 X Y) → BX1_measureName_s I5 Q p0 p1 X Y
set_option maxHeartbeats 4000000 in
set_option maxRecDepth 100000 in
theorem kX1_measureName_5 {Γ : Cxt} {Q : XT → YT → Prop} (O : Ok Γ RX1 cX1_measureName 5 { frames := 0, cells := 0, slots := 0, locals := 0 }) (r : Ret Γ none (qV Q)) {I5 : Int32 → Int32 → Int32 → Int32 → XT → YT → Prop} (e5 : ∀ (a1 : Int32) (a2 : Int32) (a3 : Int32) (a4 : Int32) (X : XT) (Y : YT), I5 a1 a2 a3 a4 X Y → V Γ 5 [(0, .ref 3), (1, .int a1), (2, .int a2), (3, .int a3), (4, .int a4)] [] X Y) {a1 : Int32} {a2 : Int32} {a3 : Int32} {a4 : Int32} {X : XT} {Y : YT} (h : BX1_measureName_5 I5 Q a1 a2 a3 a4 X Y) : V Γ 5 [(0, .ref 3), (1, .int a1), (2, .int a2), (3, .int a3), (4, .int a4)] [] X Y := by
  refine v_iload O dX1_measureName_5 4 rfl ?_
  refine v_aload_n O dX1_measureName_7 rfl 0 rfl ?_
  refine v_get O dX1_measureName_8 fo_X1_18 sh_3 rfl rfl ?_
  refine v_iload_n O dX1_measureName_11 rfl 1 rfl ?_
  refine v_iald O dX1_measureName_12 sh_6 h.1 ?_
  refine v_icmp_ge (tgt := 47) O dX1_measureName_13 (by decide) (fun g1 => ?_) (fun g1 => ?_)
  · refine v_aload_n O dX1_measureName_47 rfl 0 rfl ?_
    refine v_get O dX1_measureName_48 fo_X1_21 sh_3 rfl rfl ?_
    refine v_iload_n O dX1_measureName_51 rfl 2 rfl ?_
    refine v_bipush O dX1_measureName_52 kb_10 ?_
    refine v_imul O dX1_measureName_54 ?_
    refine v_iload_n O dX1_measureName_55 rfl 1 rfl ?_
    refine v_iadd O dX1_measureName_56 ?_
    refine v_iload_n O dX1_measureName_57 rfl 3 rfl ?_
    refine v_iast O dX1_measureName_58 sh_7 (h.2.1 g1).1 ?_
    exact v_vret O r dX1_measureName_59 ⟨rfl, (h.2.1 g1).2⟩
  · refine v_iload_n O dX1_measureName_16 rfl 3 rfl ?_
    refine v_aload_n O dX1_measureName_17 rfl 0 rfl ?_
    refine v_get O dX1_measureName_18 fo_X1_9 sh_3 rfl rfl ?_
    refine v_iload_n O dX1_measureName_21 rfl 2 rfl ?_
    refine v_bipush O dX1_measureName_22 kb_26 ?_
    refine v_imul O dX1_measureName_24 ?_
    refine v_aload_n O dX1_measureName_25 rfl 0 rfl ?_
    refine v_get O dX1_measureName_26 fo_X1_15 sh_3 rfl rfl ?_
    refine v_iload_n O dX1_measureName_29 rfl 1 rfl ?_
    refine v_bipush O dX1_measureName_30 kb_12 ?_
    refine v_imul O dX1_measureName_32 ?_
    refine v_iload O dX1_measureName_33 4 rfl ?_
    refine v_iadd O dX1_measureName_35 ?_
    refine v_iald O dX1_measureName_36 sh_5 (h.2.2 g1).1 ?_
    refine v_iadd O dX1_measureName_37 ?_
    refine v_iald O dX1_measureName_38 sh_4 (h.2.2 g1).2.1 ?_
    refine v_iadd O dX1_measureName_39 ?_
    refine v_topi (fun w2 hw3 => ?_)
    refine v_istore_n (lv' := [(3, .int w2), (0, .ref 3), (1, .int a1), (2, .int a2), (4, .int a4)]) O dX1_measureName_40 rfl (by decide) rfl ?_
    obtain ⟨w4, hw5⟩ : ∃ y : Int32, y = a4 + 1 := ⟨_, rfl⟩
    refine v_iinc (v := w4) (j := 4) O dX1_measureName_41 rfl (by rw [hw5]; exact congrArg _ kc_1) (by decide) (lv' := [(4, .int w4), (3, .int w2), (0, .ref 3), (1, .int a1), (2, .int a2)]) rfl ?_
    refine v_goto O dX1_measureName_44 (tgt := 5) (by decide) ?_
    exact v_loc [2, 3, 4, 1, 0] rfl (e5 a1 a2 w2 w4 X Y (((h.2.2 g1).2.2 w2 hw3) w4 hw5))
set_option maxHeartbeats 4000000 in
set_option maxRecDepth 100000 in
theorem kX1_measureName_s {Γ : Cxt} {Q : XT → YT → Prop} (O : Ok Γ RX1 cX1_measureName 5 { frames := 0, cells := 0, slots := 0, locals := 0 }) (r : Ret Γ none (qV Q)) {I5 : Int32 → Int32 → Int32 → Int32 → XT → YT → Prop} (e5 : ∀ (a1 : Int32) (a2 : Int32) (a3 : Int32) (a4 : Int32) (X : XT) (Y : YT), I5 a1 a2 a3 a4 X Y → V Γ 5 [(0, .ref 3), (1, .int a1), (2, .int a2), (3, .int a3), (4, .int a4)] [] X Y) {p0 : Int32} {p1 : Int32} {X : XT} {Y : YT} (h : BX1_measureName_s I5 Q p0 p1 X Y) : V Γ 0 [(0, .ref 3), (1, .int p0), (2, .int p1)] [] X Y := by
  refine v_iconst O dX1_measureName_0 kc_0 ?_
  refine v_istore_n (lv' := [(3, .int 0), (0, .ref 3), (1, .int p0), (2, .int p1)]) O dX1_measureName_1 rfl (by decide) rfl ?_
  refine v_iconst O dX1_measureName_2 kc_0 ?_
  refine v_istore (lv' := [(4, .int 0), (3, .int 0), (0, .ref 3), (1, .int p0), (2, .int p1)]) O dX1_measureName_3 (by decide) rfl ?_
  exact v_loc [2, 3, 4, 1, 0] rfl (e5 p0 p1 0 0 X Y h)
set_option maxRecDepth 100000 in
theorem mX1_measureName {Γ : Cxt} {p0 : Int32} {p1 : Int32} {X : XT} {Y : YT} {Q : XT → YT → Prop} (h : PX1_measureName p0 p1 X Y Q) : MT Γ yX1_measureName (.code yX1_measureName cX1_measureName 5 none :: wl) { frames := 0, cells := 0, slots := 0, locals := 0 } [.ref 3, .int p0, .int p1] X Y (qV Q) :=
  mt_of (by decide) (Nat.le_of_ble_eq_true rfl) (fun Γ _ O r => kX1_measureName_s O r (fun _ _ _ _ _ _ g => g) (h (fun a1 a2 a3 a4 X Y => V Γ 5 [(0, .ref 3), (1, .int a1), (2, .int a2), (3, .int a3), (4, .int a4)] [] X Y) (fun _ _ _ _ _ _ g => kX1_measureName_5 O r (fun _ _ _ _ _ _ g => g) g)))
theorem dX1_widenLetter_0 : decode cX1_widenLetter 0 = .ok (.aload_n 0, 1) := by decide +kernel
theorem dX1_widenLetter_1 : decode cX1_widenLetter 1 = .ok (.getfield 9, 3) := by decide +kernel
theorem dX1_widenLetter_4 : decode cX1_widenLetter 4 = .ok (.iload_n 1, 1) := by decide +kernel
theorem dX1_widenLetter_5 : decode cX1_widenLetter 5 = .ok (.bipush 26, 2) := by decide +kernel
theorem dX1_widenLetter_7 : decode cX1_widenLetter 7 = .ok (.imul, 1) := by decide +kernel
theorem dX1_widenLetter_8 : decode cX1_widenLetter 8 = .ok (.iload_n 2, 1) := by decide +kernel
theorem dX1_widenLetter_9 : decode cX1_widenLetter 9 = .ok (.iadd, 1) := by decide +kernel
theorem dX1_widenLetter_10 : decode cX1_widenLetter 10 = .ok (.iaload, 1) := by decide +kernel
theorem dX1_widenLetter_11 : decode cX1_widenLetter 11 = .ok (.istore 4, 2) := by decide +kernel
theorem dX1_widenLetter_13 : decode cX1_widenLetter 13 = .ok (.aload_n 0, 1) := by decide +kernel
theorem dX1_widenLetter_14 : decode cX1_widenLetter 14 = .ok (.getfield 9, 3) := by decide +kernel
theorem dX1_widenLetter_17 : decode cX1_widenLetter 17 = .ok (.iload_n 1, 1) := by decide +kernel
theorem dX1_widenLetter_18 : decode cX1_widenLetter 18 = .ok (.bipush 26, 2) := by decide +kernel
theorem dX1_widenLetter_20 : decode cX1_widenLetter 20 = .ok (.imul, 1) := by decide +kernel
theorem dX1_widenLetter_21 : decode cX1_widenLetter 21 = .ok (.iload_n 2, 1) := by decide +kernel
theorem dX1_widenLetter_22 : decode cX1_widenLetter 22 = .ok (.iadd, 1) := by decide +kernel
theorem dX1_widenLetter_23 : decode cX1_widenLetter 23 = .ok (.iload_n 3, 1) := by decide +kernel
theorem dX1_widenLetter_24 : decode cX1_widenLetter 24 = .ok (.iastore, 1) := by decide +kernel
theorem dX1_widenLetter_25 : decode cX1_widenLetter 25 = .ok (.iconst 0, 1) := by decide +kernel
theorem dX1_widenLetter_26 : decode cX1_widenLetter 26 = .ok (.istore 5, 2) := by decide +kernel
theorem dX1_widenLetter_28 : decode cX1_widenLetter 28 = .ok (.iload 5, 2) := by decide +kernel
theorem dX1_widenLetter_30 : decode cX1_widenLetter 30 = .ok (.aload_n 0, 1) := by decide +kernel
theorem dX1_widenLetter_31 : decode cX1_widenLetter 31 = .ok (.getfield 39, 3) := by decide +kernel
theorem dX1_widenLetter_34 : decode cX1_widenLetter 34 = .ok (.if_icmp .ge 16, 3) := by decide +kernel
theorem dX1_widenLetter_37 : decode cX1_widenLetter 37 = .ok (.aload_n 0, 1) := by decide +kernel
theorem dX1_widenLetter_38 : decode cX1_widenLetter 38 = .ok (.iload 5, 2) := by decide +kernel
theorem dX1_widenLetter_40 : decode cX1_widenLetter 40 = .ok (.iload_n 1, 1) := by decide +kernel
theorem dX1_widenLetter_41 : decode cX1_widenLetter 41 = .ok (.invokevirtual 57, 3) := by decide +kernel
theorem dX1_widenLetter_44 : decode cX1_widenLetter 44 = .ok (.iinc 5 1, 3) := by decide +kernel
theorem dX1_widenLetter_47 : decode cX1_widenLetter 47 = .ok (.goto (-19), 3) := by decide +kernel
theorem dX1_widenLetter_50 : decode cX1_widenLetter 50 = .ok (.iload 4, 2) := by decide +kernel
theorem dX1_widenLetter_52 : decode cX1_widenLetter 52 = .ok (.ireturn, 1) := by decide +kernel
def BX1_widenLetter_28 (I28 : Int32 → Int32 → Int32 → XT → YT → Prop) (Q : Int32 → XT → YT → Prop) (a1 : Int32) (a4 : Int32) (a5 : Int32) (X : XT) (Y : YT) : Prop :=
  (((X 3 9) ≤ a5 → Q a4 X Y) ∧ (¬ (X 3 9) ≤ a5 → PX1_measureName a5 a1 X Y (fun X3 Y4 => ∀ w6 : Int32, w6 = a5 + 1 → I28 a1 a4 w6 X3 Y4)))
def BX1_widenLetter_s (I28 : Int32 → Int32 → Int32 → XT → YT → Prop) (Q : Int32 → XT → YT → Prop) (p0 : Int32) (p1 : Int32) (p2 : Int32) (X : XT) (Y : YT) : Prop :=
  vp_in ((p0 * 26) + p1) 52 ∧ ∀ w1 : Int32, w1 = (X 4 ((p0 * 26) + p1).toNatClampNeg) → vp_in ((p0 * 26) + p1) 52 ∧ I28 p0 w1 0 (sX X 4 ((p0 * 26) + p1).toNatClampNeg p2) Y
def PX1_widenLetter (p0 : Int32) (p1 : Int32) (p2 : Int32) (X : XT) (Y : YT) (Q : Int32 → XT → YT → Prop) : Prop := ∀ (I28 : Int32 → Int32 → Int32 → XT → YT → Prop), (∀ (a1 : Int32) (a4 : Int32) (a5 : Int32) (X : XT) (Y : YT), BX1_widenLetter_28 I28 Q a1 a4 a5 X Y → I28 a1 a4 a5 X Y) → BX1_widenLetter_s I28 Q p0 p1 p2 X Y
set_option maxHeartbeats 4000000 in
set_option maxRecDepth 100000 in
theorem kX1_widenLetter_28 {Γ : Cxt} {Q : Int32 → XT → YT → Prop} (O : Ok Γ RX1 cX1_widenLetter 6 { frames := 1, cells := 0, slots := 0, locals := 24 }) (r : Ret Γ (some .int) (qI Q)) {I28 : Int32 → Int32 → Int32 → XT → YT → Prop} (e28 : ∀ (a1 : Int32) (a4 : Int32) (a5 : Int32) (X : XT) (Y : YT), I28 a1 a4 a5 X Y → V Γ 28 [(0, .ref 3), (1, .int a1), (4, .int a4), (5, .int a5)] [] X Y) {a1 : Int32} {a4 : Int32} {a5 : Int32} {X : XT} {Y : YT} (h : BX1_widenLetter_28 I28 Q a1 a4 a5 X Y) : V Γ 28 [(0, .ref 3), (1, .int a1), (4, .int a4), (5, .int a5)] [] X Y := by
  refine v_iload O dX1_widenLetter_28 3 rfl ?_
  refine v_aload_n O dX1_widenLetter_30 rfl 0 rfl ?_
  refine v_get O dX1_widenLetter_31 fo_X1_39 sh_3 rfl rfl ?_
  refine v_icmp_ge (tgt := 50) O dX1_widenLetter_34 (by decide) (fun g1 => ?_) (fun g1 => ?_)
  · refine v_iload O dX1_widenLetter_50 2 rfl ?_
    exact v_iret O r dX1_widenLetter_52 ⟨_, rfl, (h.1 g1)⟩
  · refine v_aload_n O dX1_widenLetter_37 rfl 0 rfl ?_
    refine v_iload O dX1_widenLetter_38 3 rfl ?_
    refine v_iload_n O dX1_widenLetter_40 rfl 1 rfl ?_
    refine v_callV (rm' := { frames := 0, cells := 0, slots := 0, locals := 0 }) (As := [.int a5, .int a1]) (st := []) O dX1_widenLetter_41 ci_X1_measureName ml_X1_57 mi_X1_measureName sh_3 rfl ⟨rfl, rfl, (by decide), (by decide)⟩ rfl (Nat.le_of_ble_eq_true rfl) rfl (mX1_measureName (h.2 g1)) (k_V (fun X3 Y4 h5 => ?_))
    obtain ⟨w6, hw7⟩ : ∃ y : Int32, y = a5 + 1 := ⟨_, rfl⟩
    refine v_iinc (v := w6) (j := 3) O dX1_widenLetter_44 rfl (by rw [hw7]; exact congrArg _ kc_1) (by decide) (lv' := [(5, .int w6), (0, .ref 3), (1, .int a1), (4, .int a4)]) rfl ?_
    refine v_goto O dX1_widenLetter_47 (tgt := 28) (by decide) ?_
    exact v_loc [1, 2, 3, 0] rfl (e28 a1 a4 w6 X3 Y4 (h5 w6 hw7))
set_option maxHeartbeats 4000000 in
set_option maxRecDepth 100000 in
theorem kX1_widenLetter_s {Γ : Cxt} {Q : Int32 → XT → YT → Prop} (O : Ok Γ RX1 cX1_widenLetter 6 { frames := 1, cells := 0, slots := 0, locals := 24 }) (r : Ret Γ (some .int) (qI Q)) {I28 : Int32 → Int32 → Int32 → XT → YT → Prop} (e28 : ∀ (a1 : Int32) (a4 : Int32) (a5 : Int32) (X : XT) (Y : YT), I28 a1 a4 a5 X Y → V Γ 28 [(0, .ref 3), (1, .int a1), (4, .int a4), (5, .int a5)] [] X Y) {p0 : Int32} {p1 : Int32} {p2 : Int32} {X : XT} {Y : YT} (h : BX1_widenLetter_s I28 Q p0 p1 p2 X Y) : V Γ 0 [(0, .ref 3), (1, .int p0), (2, .int p1), (3, .int p2)] [] X Y := by
  refine v_aload_n O dX1_widenLetter_0 rfl 0 rfl ?_
  refine v_get O dX1_widenLetter_1 fo_X1_9 sh_3 rfl rfl ?_
  refine v_iload_n O dX1_widenLetter_4 rfl 1 rfl ?_
  refine v_bipush O dX1_widenLetter_5 kb_26 ?_
  refine v_imul O dX1_widenLetter_7 ?_
  refine v_iload_n O dX1_widenLetter_8 rfl 2 rfl ?_
  refine v_iadd O dX1_widenLetter_9 ?_
  refine v_iald O dX1_widenLetter_10 sh_4 h.1 ?_
  refine v_topi (fun w1 hw2 => ?_)
  refine v_istore (lv' := [(4, .int w1), (0, .ref 3), (1, .int p0), (2, .int p1), (3, .int p2)]) O dX1_widenLetter_11 (by decide) rfl ?_
  refine v_aload_n O dX1_widenLetter_13 rfl 1 rfl ?_
  refine v_get O dX1_widenLetter_14 fo_X1_9 sh_3 rfl rfl ?_
  refine v_iload_n O dX1_widenLetter_17 rfl 2 rfl ?_
  refine v_bipush O dX1_widenLetter_18 kb_26 ?_
  refine v_imul O dX1_widenLetter_20 ?_
  refine v_iload_n O dX1_widenLetter_21 rfl 3 rfl ?_
  refine v_iadd O dX1_widenLetter_22 ?_
  refine v_iload_n O dX1_widenLetter_23 rfl 4 rfl ?_
  refine v_iast O dX1_widenLetter_24 sh_4 (h.2 w1 hw2).1 ?_
  refine v_iconst O dX1_widenLetter_25 kc_0 ?_
  refine v_istore (lv' := [(5, .int 0), (4, .int w1), (0, .ref 3), (1, .int p0), (2, .int p1), (3, .int p2)]) O dX1_widenLetter_26 (by decide) rfl ?_
  exact v_loc [2, 3, 1, 0] rfl (e28 p0 w1 0 (sX X 4 ((p0 * 26) + p1).toNatClampNeg p2) Y (h.2 w1 hw2).2)
set_option maxRecDepth 100000 in
theorem mX1_widenLetter {Γ : Cxt} {p0 : Int32} {p1 : Int32} {p2 : Int32} {X : XT} {Y : YT} {Q : Int32 → XT → YT → Prop} (h : PX1_widenLetter p0 p1 p2 X Y Q) : MT Γ yX1_widenLetter (.code yX1_widenLetter cX1_widenLetter 6 (some .int) :: wl) { frames := 1, cells := 0, slots := 0, locals := 24 } [.ref 3, .int p0, .int p1, .int p2] X Y (qI Q) :=
  mt_of (by decide) (Nat.le_of_ble_eq_true rfl) (fun Γ _ O r => kX1_widenLetter_s O r (fun _ _ _ _ _ g => g) (h (fun a1 a4 a5 X Y => V Γ 28 [(0, .ref 3), (1, .int a1), (4, .int a4), (5, .int a5)] [] X Y) (fun _ _ _ _ _ g => kX1_widenLetter_28 O r (fun _ _ _ _ _ g => g) g)))
theorem dX8_at_0 : decode cX8_at 0 = .ok (.iload_n 1, 1) := by decide +kernel
theorem dX8_at_1 : decode cX8_at 1 = .ok (.ifCond .lt 20, 3) := by decide +kernel
theorem dX8_at_4 : decode cX8_at 4 = .ok (.iload_n 1, 1) := by decide +kernel
theorem dX8_at_5 : decode cX8_at 5 = .ok (.aload_n 0, 1) := by decide +kernel
theorem dX8_at_6 : decode cX8_at 6 = .ok (.getfield 15, 3) := by decide +kernel
theorem dX8_at_9 : decode cX8_at 9 = .ok (.if_icmp .ge 12, 3) := by decide +kernel
theorem dX8_at_12 : decode cX8_at 12 = .ok (.aload_n 0, 1) := by decide +kernel
theorem dX8_at_13 : decode cX8_at 13 = .ok (.getfield 9, 3) := by decide +kernel
theorem dX8_at_16 : decode cX8_at 16 = .ok (.iload_n 1, 1) := by decide +kernel
theorem dX8_at_17 : decode cX8_at 17 = .ok (.iaload, 1) := by decide +kernel
theorem dX8_at_18 : decode cX8_at 18 = .ok (.goto 4, 3) := by decide +kernel
theorem dX8_at_21 : decode cX8_at 21 = .ok (.iconst (-1), 1) := by decide +kernel
theorem dX8_at_22 : decode cX8_at 22 = .ok (.ireturn, 1) := by decide +kernel
def BX8_at_s (Q : Int32 → XT → YT → Prop) (p0 : Int32) (X : XT) (Y : YT) : Prop :=
  ((p0 < 0 → Q (-1) X Y) ∧ (¬ p0 < 0 → (((X 1 1) ≤ p0 → Q (-1) X Y) ∧ (¬ (X 1 1) ≤ p0 → vp_in p0 120 ∧ Q (X 2 p0.toNatClampNeg) X Y))))
def PX8_at (p0 : Int32) (X : XT) (Y : YT) (Q : Int32 → XT → YT → Prop) : Prop :=  BX8_at_s Q p0 X Y
set_option maxHeartbeats 4000000 in
set_option maxRecDepth 100000 in
theorem kX8_at_s {Γ : Cxt} {Q : Int32 → XT → YT → Prop} (O : Ok Γ RX8 cX8_at 2 { frames := 0, cells := 0, slots := 0, locals := 0 }) (r : Ret Γ (some .int) (qI Q)) {p0 : Int32} {X : XT} {Y : YT} (h : BX8_at_s Q p0 X Y) : V Γ 0 [(0, .ref 1), (1, .int p0)] [] X Y := by
  refine v_iload_n O dX8_at_0 rfl 1 rfl ?_
  refine v_if_lt (tgt := 21) O dX8_at_1 (by decide) (fun g1 => ?_) (fun g1 => ?_)
  · refine v_iconst O dX8_at_21 kc_m1 ?_
    exact v_iret O r dX8_at_22 ⟨_, rfl, (h.1 g1)⟩
  · refine v_iload_n O dX8_at_4 rfl 1 rfl ?_
    refine v_aload_n O dX8_at_5 rfl 0 rfl ?_
    refine v_get O dX8_at_6 fo_X8_15 sh_1 rfl rfl ?_
    refine v_icmp_ge (tgt := 21) O dX8_at_9 (by decide) (fun g2 => ?_) (fun g2 => ?_)
    · refine v_iconst O dX8_at_21 kc_m1 ?_
      exact v_iret O r dX8_at_22 ⟨_, rfl, ((h.2 g1).1 g2)⟩
    · refine v_aload_n O dX8_at_12 rfl 0 rfl ?_
      refine v_get O dX8_at_13 fo_X8_9 sh_1 rfl rfl ?_
      refine v_iload_n O dX8_at_16 rfl 1 rfl ?_
      refine v_iald O dX8_at_17 sh_2 ((h.2 g1).2 g2).1 ?_
      refine v_goto O dX8_at_18 (tgt := 22) (by decide) ?_
      exact v_iret O r dX8_at_22 ⟨_, rfl, ((h.2 g1).2 g2).2⟩
set_option maxRecDepth 100000 in
theorem mX8_at {Γ : Cxt} {p0 : Int32} {X : XT} {Y : YT} {Q : Int32 → XT → YT → Prop} (h : PX8_at p0 X Y Q) : MT Γ yX8_at (.code yX8_at cX8_at 2 (some .int) :: wl) { frames := 0, cells := 0, slots := 0, locals := 0 } [.ref 1, .int p0] X Y (qI Q) :=
  mt_of (by decide) (Nat.le_of_ble_eq_true rfl) (fun Γ _ O r => kX8_at_s O r  (h ))
theorem dX1_isWritten_0 : decode cX1_isWritten 0 = .ok (.iconst 0, 1) := by decide +kernel
theorem dX1_isWritten_1 : decode cX1_isWritten 1 = .ok (.istore 4, 2) := by decide +kernel
theorem dX1_isWritten_3 : decode cX1_isWritten 3 = .ok (.iload 4, 2) := by decide +kernel
theorem dX1_isWritten_5 : decode cX1_isWritten 5 = .ok (.aload_n 0, 1) := by decide +kernel
theorem dX1_isWritten_6 : decode cX1_isWritten 6 = .ok (.getfield 18, 3) := by decide +kernel
theorem dX1_isWritten_9 : decode cX1_isWritten 9 = .ok (.iload_n 1, 1) := by decide +kernel
theorem dX1_isWritten_10 : decode cX1_isWritten 10 = .ok (.iaload, 1) := by decide +kernel
theorem dX1_isWritten_11 : decode cX1_isWritten 11 = .ok (.if_icmp .ge 37, 3) := by decide +kernel
theorem dX1_isWritten_14 : decode cX1_isWritten 14 = .ok (.aload_n 2, 1) := by decide +kernel
theorem dX1_isWritten_15 : decode cX1_isWritten 15 = .ok (.iload_n 3, 1) := by decide +kernel
theorem dX1_isWritten_16 : decode cX1_isWritten 16 = .ok (.iload 4, 2) := by decide +kernel
theorem dX1_isWritten_18 : decode cX1_isWritten 18 = .ok (.iadd, 1) := by decide +kernel
theorem dX1_isWritten_19 : decode cX1_isWritten 19 = .ok (.invokevirtual 65, 3) := by decide +kernel
theorem dX1_isWritten_22 : decode cX1_isWritten 22 = .ok (.bipush 97, 2) := by decide +kernel
theorem dX1_isWritten_24 : decode cX1_isWritten 24 = .ok (.aload_n 0, 1) := by decide +kernel
theorem dX1_isWritten_25 : decode cX1_isWritten 25 = .ok (.getfield 15, 3) := by decide +kernel
theorem dX1_isWritten_28 : decode cX1_isWritten 28 = .ok (.iload_n 1, 1) := by decide +kernel
theorem dX1_isWritten_29 : decode cX1_isWritten 29 = .ok (.bipush 12, 2) := by decide +kernel
theorem dX1_isWritten_31 : decode cX1_isWritten 31 = .ok (.imul, 1) := by decide +kernel
theorem dX1_isWritten_32 : decode cX1_isWritten 32 = .ok (.iload 4, 2) := by decide +kernel
theorem dX1_isWritten_34 : decode cX1_isWritten 34 = .ok (.iadd, 1) := by decide +kernel
theorem dX1_isWritten_35 : decode cX1_isWritten 35 = .ok (.iaload, 1) := by decide +kernel
theorem dX1_isWritten_36 : decode cX1_isWritten 36 = .ok (.iadd, 1) := by decide +kernel
theorem dX1_isWritten_37 : decode cX1_isWritten 37 = .ok (.if_icmp .eq 5, 3) := by decide +kernel
theorem dX1_isWritten_40 : decode cX1_isWritten 40 = .ok (.iconst 0, 1) := by decide +kernel
theorem dX1_isWritten_41 : decode cX1_isWritten 41 = .ok (.ireturn, 1) := by decide +kernel
theorem dX1_isWritten_42 : decode cX1_isWritten 42 = .ok (.iinc 4 1, 3) := by decide +kernel
theorem dX1_isWritten_45 : decode cX1_isWritten 45 = .ok (.goto (-42), 3) := by decide +kernel
theorem dX1_isWritten_48 : decode cX1_isWritten 48 = .ok (.iconst 1, 1) := by decide +kernel
theorem dX1_isWritten_49 : decode cX1_isWritten 49 = .ok (.ireturn, 1) := by decide +kernel
def BX1_isWritten_3 (I3 : Int32 → Int32 → Int32 → XT → YT → Prop) (Q : Int32 → XT → YT → Prop) (a1 : Int32) (a3 : Int32) (a4 : Int32) (X : XT) (Y : YT) : Prop :=
  vp_in a1 10 ∧ (((X 6 a1.toNatClampNeg) ≤ a4 → Q 1 X Y) ∧ (¬ (X 6 a1.toNatClampNeg) ≤ a4 → PX8_at (a3 + a4) X Y (fun r2 X3 Y4 => vp_in ((a1 * 12) + a4) 120 ∧ ((r2 = (97 + (X3 5 ((a1 * 12) + a4).toNatClampNeg)) → ∀ w7 : Int32, w7 = a4 + 1 → I3 a1 a3 w7 X3 Y4) ∧ (¬ r2 = (97 + (X3 5 ((a1 * 12) + a4).toNatClampNeg)) → Q 0 X3 Y4)))))
def BX1_isWritten_s (I3 : Int32 → Int32 → Int32 → XT → YT → Prop) (Q : Int32 → XT → YT → Prop) (p0 : Int32) (p2 : Int32) (X : XT) (Y : YT) : Prop :=
  I3 p0 p2 0 X Y
def PX1_isWritten (p0 : Int32) (p2 : Int32) (X : XT) (Y : YT) (Q : Int32 → XT → YT → Prop) : Prop := ∀ (I3 : Int32 → Int32 → Int32 → XT → YT → Prop), (∀ (a1 : Int32) (a3 : Int32) (a4 : Int32) (X : XT) (Y : YT), BX1_isWritten_3 I3 Q a1 a3 a4 X Y → I3 a1 a3 a4 X Y) → BX1_isWritten_s I3 Q p0 p2 X Y
set_option maxHeartbeats 4000000 in
set_option maxRecDepth 100000 in
theorem kX1_isWritten_3 {Γ : Cxt} {Q : Int32 → XT → YT → Prop} (O : Ok Γ RX1 cX1_isWritten 5 { frames := 1, cells := 0, slots := 0, locals := 21 }) (r : Ret Γ (some .boolean) (qI Q)) {I3 : Int32 → Int32 → Int32 → XT → YT → Prop} (e3 : ∀ (a1 : Int32) (a3 : Int32) (a4 : Int32) (X : XT) (Y : YT), I3 a1 a3 a4 X Y → V Γ 3 [(0, .ref 3), (1, .int a1), (2, .ref 1), (3, .int a3), (4, .int a4)] [] X Y) {a1 : Int32} {a3 : Int32} {a4 : Int32} {X : XT} {Y : YT} (h : BX1_isWritten_3 I3 Q a1 a3 a4 X Y) : V Γ 3 [(0, .ref 3), (1, .int a1), (2, .ref 1), (3, .int a3), (4, .int a4)] [] X Y := by
  refine v_iload O dX1_isWritten_3 4 rfl ?_
  refine v_aload_n O dX1_isWritten_5 rfl 0 rfl ?_
  refine v_get O dX1_isWritten_6 fo_X1_18 sh_3 rfl rfl ?_
  refine v_iload_n O dX1_isWritten_9 rfl 1 rfl ?_
  refine v_iald O dX1_isWritten_10 sh_6 h.1 ?_
  refine v_icmp_ge (tgt := 48) O dX1_isWritten_11 (by decide) (fun g1 => ?_) (fun g1 => ?_)
  · refine v_iconst O dX1_isWritten_48 kc_1 ?_
    exact v_zret O r dX1_isWritten_49 (by decide) ⟨_, rfl, (h.2.1 g1)⟩
  · refine v_aload_n O dX1_isWritten_14 rfl 2 rfl ?_
    refine v_iload_n O dX1_isWritten_15 rfl 3 rfl ?_
    refine v_iload O dX1_isWritten_16 4 rfl ?_
    refine v_iadd O dX1_isWritten_18 ?_
    refine v_callV (rm' := { frames := 0, cells := 0, slots := 0, locals := 0 }) (As := [.int (a3 + a4)]) (st := []) O dX1_isWritten_19 ci_X8_at ml_X1_65 mi_X8_at sh_1 rfl ⟨rfl, rfl, (by decide), (by decide)⟩ rfl (Nat.le_of_ble_eq_true rfl) rfl (mX8_at (h.2.2 g1)) (k_I (fun r2 X3 Y4 h5 => ?_))
    refine v_bipush O dX1_isWritten_22 kb_97 ?_
    refine v_aload_n O dX1_isWritten_24 rfl 0 rfl ?_
    refine v_get O dX1_isWritten_25 fo_X1_15 sh_3 rfl rfl ?_
    refine v_iload_n O dX1_isWritten_28 rfl 1 rfl ?_
    refine v_bipush O dX1_isWritten_29 kb_12 ?_
    refine v_imul O dX1_isWritten_31 ?_
    refine v_iload O dX1_isWritten_32 4 rfl ?_
    refine v_iadd O dX1_isWritten_34 ?_
    refine v_iald O dX1_isWritten_35 sh_5 h5.1 ?_
    refine v_iadd O dX1_isWritten_36 ?_
    refine v_icmp_eq (tgt := 42) O dX1_isWritten_37 (by decide) (fun g6 => ?_) (fun g6 => ?_)
    · obtain ⟨w7, hw8⟩ : ∃ y : Int32, y = a4 + 1 := ⟨_, rfl⟩
      refine v_iinc (v := w7) (j := 4) O dX1_isWritten_42 rfl (by rw [hw8]; exact congrArg _ kc_1) (by decide) (lv' := [(4, .int w7), (0, .ref 3), (1, .int a1), (2, .ref 1), (3, .int a3)]) rfl ?_
      refine v_goto O dX1_isWritten_45 (tgt := 3) (by decide) ?_
      exact v_loc [1, 2, 3, 4, 0] rfl (e3 a1 a3 w7 X3 Y4 ((h5.2.1 g6) w7 hw8))
    · refine v_iconst O dX1_isWritten_40 kc_0 ?_
      exact v_zret O r dX1_isWritten_41 (by decide) ⟨_, rfl, (h5.2.2 g6)⟩
set_option maxHeartbeats 4000000 in
set_option maxRecDepth 100000 in
theorem kX1_isWritten_s {Γ : Cxt} {Q : Int32 → XT → YT → Prop} (O : Ok Γ RX1 cX1_isWritten 5 { frames := 1, cells := 0, slots := 0, locals := 21 }) (r : Ret Γ (some .boolean) (qI Q)) {I3 : Int32 → Int32 → Int32 → XT → YT → Prop} (e3 : ∀ (a1 : Int32) (a3 : Int32) (a4 : Int32) (X : XT) (Y : YT), I3 a1 a3 a4 X Y → V Γ 3 [(0, .ref 3), (1, .int a1), (2, .ref 1), (3, .int a3), (4, .int a4)] [] X Y) {p0 : Int32} {p2 : Int32} {X : XT} {Y : YT} (h : BX1_isWritten_s I3 Q p0 p2 X Y) : V Γ 0 [(0, .ref 3), (1, .int p0), (2, .ref 1), (3, .int p2)] [] X Y := by
  refine v_iconst O dX1_isWritten_0 kc_0 ?_
  refine v_istore (lv' := [(4, .int 0), (0, .ref 3), (1, .int p0), (2, .ref 1), (3, .int p2)]) O dX1_isWritten_1 (by decide) rfl ?_
  exact v_loc [1, 2, 3, 4, 0] rfl (e3 p0 p2 0 X Y h)
set_option maxRecDepth 100000 in
theorem mX1_isWritten {Γ : Cxt} {p0 : Int32} {p2 : Int32} {X : XT} {Y : YT} {Q : Int32 → XT → YT → Prop} (h : PX1_isWritten p0 p2 X Y Q) : MT Γ yX1_isWritten (.code yX1_isWritten cX1_isWritten 5 (some .boolean) :: wl) { frames := 1, cells := 0, slots := 0, locals := 21 } [.ref 3, .int p0, .ref 1, .int p2] X Y (qI Q) :=
  mt_of (by decide) (Nat.le_of_ble_eq_true rfl) (fun Γ _ O r => kX1_isWritten_s O r (fun _ _ _ _ _ g => g) (h (fun a1 a3 a4 X Y => V Γ 3 [(0, .ref 3), (1, .int a1), (2, .ref 1), (3, .int a3), (4, .int a4)] [] X Y) (fun _ _ _ _ _ g => kX1_isWritten_3 O r (fun _ _ _ _ _ g => g) g)))
theorem dX1_find_0 : decode cX1_find 0 = .ok (.iconst 0, 1) := by decide +kernel
theorem dX1_find_1 : decode cX1_find 1 = .ok (.istore 4, 2) := by decide +kernel
theorem dX1_find_3 : decode cX1_find 3 = .ok (.iload 4, 2) := by decide +kernel
theorem dX1_find_5 : decode cX1_find 5 = .ok (.aload_n 0, 1) := by decide +kernel
theorem dX1_find_6 : decode cX1_find 6 = .ok (.getfield 39, 3) := by decide +kernel
theorem dX1_find_9 : decode cX1_find 9 = .ok (.if_icmp .ge 36, 3) := by decide +kernel
theorem dX1_find_12 : decode cX1_find 12 = .ok (.aload_n 0, 1) := by decide +kernel
theorem dX1_find_13 : decode cX1_find 13 = .ok (.getfield 18, 3) := by decide +kernel
theorem dX1_find_16 : decode cX1_find 16 = .ok (.iload 4, 2) := by decide +kernel
theorem dX1_find_18 : decode cX1_find 18 = .ok (.iaload, 1) := by decide +kernel
theorem dX1_find_19 : decode cX1_find 19 = .ok (.iload_n 3, 1) := by decide +kernel
theorem dX1_find_20 : decode cX1_find 20 = .ok (.iload_n 2, 1) := by decide +kernel
theorem dX1_find_21 : decode cX1_find 21 = .ok (.isub, 1) := by decide +kernel
theorem dX1_find_22 : decode cX1_find 22 = .ok (.if_icmp .ne 17, 3) := by decide +kernel
theorem dX1_find_25 : decode cX1_find 25 = .ok (.aload_n 0, 1) := by decide +kernel
theorem dX1_find_26 : decode cX1_find 26 = .ok (.iload 4, 2) := by decide +kernel
theorem dX1_find_28 : decode cX1_find 28 = .ok (.aload_n 1, 1) := by decide +kernel
theorem dX1_find_29 : decode cX1_find 29 = .ok (.iload_n 2, 1) := by decide +kernel
theorem dX1_find_30 : decode cX1_find 30 = .ok (.invokevirtual 61, 3) := by decide +kernel
theorem dX1_find_33 : decode cX1_find 33 = .ok (.ifCond .eq 6, 3) := by decide +kernel
theorem dX1_find_36 : decode cX1_find 36 = .ok (.iload 4, 2) := by decide +kernel
theorem dX1_find_38 : decode cX1_find 38 = .ok (.ireturn, 1) := by decide +kernel
theorem dX1_find_39 : decode cX1_find 39 = .ok (.iinc 4 1, 3) := by decide +kernel
theorem dX1_find_42 : decode cX1_find 42 = .ok (.goto (-39), 3) := by decide +kernel
theorem dX1_find_45 : decode cX1_find 45 = .ok (.iconst (-1), 1) := by decide +kernel
theorem dX1_find_46 : decode cX1_find 46 = .ok (.ireturn, 1) := by decide +kernel
def BX1_find_3 (I3 : Int32 → Int32 → Int32 → XT → YT → Prop) (Q : Int32 → XT → YT → Prop) (a2 : Int32) (a3 : Int32) (a4 : Int32) (X : XT) (Y : YT) : Prop :=
  (((X 3 9) ≤ a4 → Q (-1) X Y) ∧ (¬ (X 3 9) ≤ a4 → vp_in a4 10 ∧ ((¬ (X 6 a4.toNatClampNeg) = (a3 - a2) → ∀ w3 : Int32, w3 = a4 + 1 → I3 a2 a3 w3 X Y) ∧ ((X 6 a4.toNatClampNeg) = (a3 - a2) → PX1_isWritten a4 a2 X Y (fun r5 X6 Y7 => ((r5 = 0 → ∀ w10 : Int32, w10 = a4 + 1 → I3 a2 a3 w10 X6 Y7) ∧ (¬ r5 = 0 → Q a4 X6 Y7)))))))
def BX1_find_s (I3 : Int32 → Int32 → Int32 → XT → YT → Prop) (Q : Int32 → XT → YT → Prop) (p1 : Int32) (p2 : Int32) (X : XT) (Y : YT) : Prop :=
  I3 p1 p2 0 X Y
def PX1_find (p1 : Int32) (p2 : Int32) (X : XT) (Y : YT) (Q : Int32 → XT → YT → Prop) : Prop := ∀ (I3 : Int32 → Int32 → Int32 → XT → YT → Prop), (∀ (a2 : Int32) (a3 : Int32) (a4 : Int32) (X : XT) (Y : YT), BX1_find_3 I3 Q a2 a3 a4 X Y → I3 a2 a3 a4 X Y) → BX1_find_s I3 Q p1 p2 X Y
set_option maxHeartbeats 4000000 in
set_option maxRecDepth 100000 in
theorem kX1_find_3 {Γ : Cxt} {Q : Int32 → XT → YT → Prop} (O : Ok Γ RX1 cX1_find 5 { frames := 2, cells := 0, slots := 0, locals := 45 }) (r : Ret Γ (some .int) (qI Q)) {I3 : Int32 → Int32 → Int32 → XT → YT → Prop} (e3 : ∀ (a2 : Int32) (a3 : Int32) (a4 : Int32) (X : XT) (Y : YT), I3 a2 a3 a4 X Y → V Γ 3 [(0, .ref 3), (1, .ref 1), (2, .int a2), (3, .int a3), (4, .int a4)] [] X Y) {a2 : Int32} {a3 : Int32} {a4 : Int32} {X : XT} {Y : YT} (h : BX1_find_3 I3 Q a2 a3 a4 X Y) : V Γ 3 [(0, .ref 3), (1, .ref 1), (2, .int a2), (3, .int a3), (4, .int a4)] [] X Y := by
  refine v_iload O dX1_find_3 4 rfl ?_
  refine v_aload_n O dX1_find_5 rfl 0 rfl ?_
  refine v_get O dX1_find_6 fo_X1_39 sh_3 rfl rfl ?_
  refine v_icmp_ge (tgt := 45) O dX1_find_9 (by decide) (fun g1 => ?_) (fun g1 => ?_)
  · refine v_iconst O dX1_find_45 kc_m1 ?_
    exact v_iret O r dX1_find_46 ⟨_, rfl, (h.1 g1)⟩
  · refine v_aload_n O dX1_find_12 rfl 0 rfl ?_
    refine v_get O dX1_find_13 fo_X1_18 sh_3 rfl rfl ?_
    refine v_iload O dX1_find_16 4 rfl ?_
    refine v_iald O dX1_find_18 sh_6 (h.2 g1).1 ?_
    refine v_iload_n O dX1_find_19 rfl 3 rfl ?_
    refine v_iload_n O dX1_find_20 rfl 2 rfl ?_
    refine v_isub O dX1_find_21 ?_
    refine v_icmp_ne (tgt := 39) O dX1_find_22 (by decide) (fun g2 => ?_) (fun g2 => ?_)
    · obtain ⟨w3, hw4⟩ : ∃ y : Int32, y = a4 + 1 := ⟨_, rfl⟩
      refine v_iinc (v := w3) (j := 4) O dX1_find_39 rfl (by rw [hw4]; exact congrArg _ kc_1) (by decide) (lv' := [(4, .int w3), (0, .ref 3), (1, .ref 1), (2, .int a2), (3, .int a3)]) rfl ?_
      refine v_goto O dX1_find_42 (tgt := 3) (by decide) ?_
      exact v_loc [1, 2, 3, 4, 0] rfl (e3 a2 a3 w3 X Y (((h.2 g1).2.1 g2) w3 hw4))
    · refine v_aload_n O dX1_find_25 rfl 0 rfl ?_
      refine v_iload O dX1_find_26 4 rfl ?_
      refine v_aload_n O dX1_find_28 rfl 1 rfl ?_
      refine v_iload_n O dX1_find_29 rfl 2 rfl ?_
      refine v_callV (rm' := { frames := 1, cells := 0, slots := 0, locals := 21 }) (As := [.int a4, .ref 1, .int a2]) (st := []) O dX1_find_30 ci_X1_isWritten ml_X1_61 mi_X1_isWritten sh_3 rfl ⟨rfl, rfl, (by decide), (by decide)⟩ rfl (Nat.le_of_ble_eq_true rfl) rfl (mX1_isWritten ((h.2 g1).2.2 g2)) (k_I (fun r5 X6 Y7 h8 => ?_))
      refine v_if_eq (tgt := 39) O dX1_find_33 (by decide) (fun g9 => ?_) (fun g9 => ?_)
      · obtain ⟨w10, hw11⟩ : ∃ y : Int32, y = a4 + 1 := ⟨_, rfl⟩
        refine v_iinc (v := w10) (j := 4) O dX1_find_39 rfl (by rw [hw11]; exact congrArg _ kc_1) (by decide) (lv' := [(4, .int w10), (0, .ref 3), (1, .ref 1), (2, .int a2), (3, .int a3)]) rfl ?_
        refine v_goto O dX1_find_42 (tgt := 3) (by decide) ?_
        exact v_loc [1, 2, 3, 4, 0] rfl (e3 a2 a3 w10 X6 Y7 ((h8.1 g9) w10 hw11))
      · refine v_iload O dX1_find_36 4 rfl ?_
        exact v_iret O r dX1_find_38 ⟨_, rfl, (h8.2 g9)⟩
set_option maxHeartbeats 4000000 in
set_option maxRecDepth 100000 in
theorem kX1_find_s {Γ : Cxt} {Q : Int32 → XT → YT → Prop} (O : Ok Γ RX1 cX1_find 5 { frames := 2, cells := 0, slots := 0, locals := 45 }) (r : Ret Γ (some .int) (qI Q)) {I3 : Int32 → Int32 → Int32 → XT → YT → Prop} (e3 : ∀ (a2 : Int32) (a3 : Int32) (a4 : Int32) (X : XT) (Y : YT), I3 a2 a3 a4 X Y → V Γ 3 [(0, .ref 3), (1, .ref 1), (2, .int a2), (3, .int a3), (4, .int a4)] [] X Y) {p1 : Int32} {p2 : Int32} {X : XT} {Y : YT} (h : BX1_find_s I3 Q p1 p2 X Y) : V Γ 0 [(0, .ref 3), (1, .ref 1), (2, .int p1), (3, .int p2)] [] X Y := by
  refine v_iconst O dX1_find_0 kc_0 ?_
  refine v_istore (lv' := [(4, .int 0), (0, .ref 3), (1, .ref 1), (2, .int p1), (3, .int p2)]) O dX1_find_1 (by decide) rfl ?_
  exact v_loc [1, 2, 3, 4, 0] rfl (e3 p1 p2 0 X Y h)
set_option maxRecDepth 100000 in
theorem mX1_find {Γ : Cxt} {p1 : Int32} {p2 : Int32} {X : XT} {Y : YT} {Q : Int32 → XT → YT → Prop} (h : PX1_find p1 p2 X Y Q) : MT Γ yX1_find (.code yX1_find cX1_find 5 (some .int) :: wl) { frames := 2, cells := 0, slots := 0, locals := 45 } [.ref 3, .ref 1, .int p1, .int p2] X Y (qI Q) :=
  mt_of (by decide) (Nat.le_of_ble_eq_true rfl) (fun Γ _ O r => kX1_find_s O r (fun _ _ _ _ _ g => g) (h (fun a2 a3 a4 X Y => V Γ 3 [(0, .ref 3), (1, .ref 1), (2, .int a2), (3, .int a3), (4, .int a4)] [] X Y) (fun _ _ _ _ _ g => kX1_find_3 O r (fun _ _ _ _ _ g => g) g)))
theorem dX8_isLetter_0 : decode cX8_isLetter 0 = .ok (.aload_n 0, 1) := by decide +kernel
theorem dX8_isLetter_1 : decode cX8_isLetter 1 = .ok (.iload_n 1, 1) := by decide +kernel
theorem dX8_isLetter_2 : decode cX8_isLetter 2 = .ok (.invokevirtual 19, 3) := by decide +kernel
theorem dX8_isLetter_5 : decode cX8_isLetter 5 = .ok (.bipush 97, 2) := by decide +kernel
theorem dX8_isLetter_7 : decode cX8_isLetter 7 = .ok (.bipush 122, 2) := by decide +kernel
theorem dX8_isLetter_9 : decode cX8_isLetter 9 = .ok (.invokestatic 23, 3) := by decide +kernel
theorem dX8_isLetter_12 : decode cX8_isLetter 12 = .ok (.ireturn, 1) := by decide +kernel
def BX8_isLetter_s (Q : Int32 → XT → YT → Prop) (p0 : Int32) (X : XT) (Y : YT) : Prop :=
  PX8_at p0 X Y (fun r1 X2 Y3 => PX9_within r1 97 122 X2 Y3 (fun r5 X6 Y7 => narrow .boolean (.int r5) = .int r5 ∧ Q r5 X6 Y7))
def PX8_isLetter (p0 : Int32) (X : XT) (Y : YT) (Q : Int32 → XT → YT → Prop) : Prop :=  BX8_isLetter_s Q p0 X Y
set_option maxHeartbeats 4000000 in
set_option maxRecDepth 100000 in
theorem kX8_isLetter_s {Γ : Cxt} {Q : Int32 → XT → YT → Prop} (O : Ok Γ RX8 cX8_isLetter 2 { frames := 1, cells := 0, slots := 0, locals := 22 }) (r : Ret Γ (some .boolean) (qI Q)) {p0 : Int32} {X : XT} {Y : YT} (h : BX8_isLetter_s Q p0 X Y) : V Γ 0 [(0, .ref 1), (1, .int p0)] [] X Y := by
  refine v_aload_n O dX8_isLetter_0 rfl 0 rfl ?_
  refine v_iload_n O dX8_isLetter_1 rfl 1 rfl ?_
  refine v_callV (rm' := { frames := 0, cells := 0, slots := 0, locals := 0 }) (As := [.int p0]) (st := []) O dX8_isLetter_2 ci_X8_at ml_X8_19 mi_X8_at sh_1 rfl ⟨rfl, rfl, (by decide), (by decide)⟩ rfl (Nat.le_of_ble_eq_true rfl) rfl (mX8_at h) (k_I (fun r1 X2 Y3 h4 => ?_))
  refine v_bipush O dX8_isLetter_5 kb_97 ?_
  refine v_bipush O dX8_isLetter_7 kb_122 ?_
  refine v_callN (rm' := { frames := 0, cells := 0, slots := 0, locals := 0 }) (As := [.int r1, .int 97, .int 122]) (st := []) O dX8_isLetter_9 ci_X9_within ml_X8_23 ms_X9_within ⟨rfl, rfl, (by decide), (by decide)⟩ rfl (Nat.le_of_ble_eq_true rfl) rfl (mX9_within h4) (k_I (fun r5 X6 Y7 h8 => ?_))
  exact v_zret O r dX8_isLetter_12 h8.1 ⟨_, rfl, h8.2⟩
set_option maxRecDepth 100000 in
theorem mX8_isLetter {Γ : Cxt} {p0 : Int32} {X : XT} {Y : YT} {Q : Int32 → XT → YT → Prop} (h : PX8_isLetter p0 X Y Q) : MT Γ yX8_isLetter (.code yX8_isLetter cX8_isLetter 2 (some .boolean) :: wl) { frames := 1, cells := 0, slots := 0, locals := 22 } [.ref 1, .int p0] X Y (qI Q) :=
  mt_of (by decide) (Nat.le_of_ble_eq_true rfl) (fun Γ _ O r => kX8_isLetter_s O r  (h ))
theorem dX8_endOfWord_0 : decode cX8_endOfWord 0 = .ok (.iload_n 1, 1) := by decide +kernel
theorem dX8_endOfWord_1 : decode cX8_endOfWord 1 = .ok (.istore_n 2, 1) := by decide +kernel
theorem dX8_endOfWord_2 : decode cX8_endOfWord 2 = .ok (.iload_n 2, 1) := by decide +kernel
theorem dX8_endOfWord_3 : decode cX8_endOfWord 3 = .ok (.aload_n 0, 1) := by decide +kernel
theorem dX8_endOfWord_4 : decode cX8_endOfWord 4 = .ok (.getfield 15, 3) := by decide +kernel
theorem dX8_endOfWord_7 : decode cX8_endOfWord 7 = .ok (.if_icmp .ge 17, 3) := by decide +kernel
theorem dX8_endOfWord_10 : decode cX8_endOfWord 10 = .ok (.aload_n 0, 1) := by decide +kernel
theorem dX8_endOfWord_11 : decode cX8_endOfWord 11 = .ok (.iload_n 2, 1) := by decide +kernel
theorem dX8_endOfWord_12 : decode cX8_endOfWord 12 = .ok (.invokevirtual 27, 3) := by decide +kernel
theorem dX8_endOfWord_15 : decode cX8_endOfWord 15 = .ok (.ifCond .eq 9, 3) := by decide +kernel
theorem dX8_endOfWord_18 : decode cX8_endOfWord 18 = .ok (.iinc 2 1, 3) := by decide +kernel
theorem dX8_endOfWord_21 : decode cX8_endOfWord 21 = .ok (.goto (-19), 3) := by decide +kernel
theorem dX8_endOfWord_24 : decode cX8_endOfWord 24 = .ok (.iload_n 2, 1) := by decide +kernel
theorem dX8_endOfWord_25 : decode cX8_endOfWord 25 = .ok (.ireturn, 1) := by decide +kernel
def BX8_endOfWord_2 (I2 : Int32 → XT → YT → Prop) (Q : Int32 → XT → YT → Prop) (a2 : Int32) (X : XT) (Y : YT) : Prop :=
  (((X 1 1) ≤ a2 → Q a2 X Y) ∧ (¬ (X 1 1) ≤ a2 → PX8_isLetter a2 X Y (fun r2 X3 Y4 => ((r2 = 0 → Q a2 X3 Y4) ∧ (¬ r2 = 0 → ∀ w7 : Int32, w7 = a2 + 1 → I2 w7 X3 Y4)))))
def BX8_endOfWord_s (I2 : Int32 → XT → YT → Prop) (Q : Int32 → XT → YT → Prop) (p0 : Int32) (X : XT) (Y : YT) : Prop :=
  I2 p0 X Y
def PX8_endOfWord (p0 : Int32) (X : XT) (Y : YT) (Q : Int32 → XT → YT → Prop) : Prop := ∀ (I2 : Int32 → XT → YT → Prop), (∀ (a2 : Int32) (X : XT) (Y : YT), BX8_endOfWord_2 I2 Q a2 X Y → I2 a2 X Y) → BX8_endOfWord_s I2 Q p0 X Y
set_option maxHeartbeats 4000000 in
set_option maxRecDepth 100000 in
theorem kX8_endOfWord_2 {Γ : Cxt} {Q : Int32 → XT → YT → Prop} (O : Ok Γ RX8 cX8_endOfWord 3 { frames := 2, cells := 0, slots := 0, locals := 43 }) (r : Ret Γ (some .int) (qI Q)) {I2 : Int32 → XT → YT → Prop} (e2 : ∀ (a2 : Int32) (X : XT) (Y : YT), I2 a2 X Y → V Γ 2 [(0, .ref 1), (2, .int a2)] [] X Y) {a2 : Int32} {X : XT} {Y : YT} (h : BX8_endOfWord_2 I2 Q a2 X Y) : V Γ 2 [(0, .ref 1), (2, .int a2)] [] X Y := by
  refine v_iload_n O dX8_endOfWord_2 rfl 1 rfl ?_
  refine v_aload_n O dX8_endOfWord_3 rfl 0 rfl ?_
  refine v_get O dX8_endOfWord_4 fo_X8_15 sh_1 rfl rfl ?_
  refine v_icmp_ge (tgt := 24) O dX8_endOfWord_7 (by decide) (fun g1 => ?_) (fun g1 => ?_)
  · refine v_iload_n O dX8_endOfWord_24 rfl 1 rfl ?_
    exact v_iret O r dX8_endOfWord_25 ⟨_, rfl, (h.1 g1)⟩
  · refine v_aload_n O dX8_endOfWord_10 rfl 0 rfl ?_
    refine v_iload_n O dX8_endOfWord_11 rfl 1 rfl ?_
    refine v_callV (rm' := { frames := 1, cells := 0, slots := 0, locals := 22 }) (As := [.int a2]) (st := []) O dX8_endOfWord_12 ci_X8_isLetter ml_X8_27 mi_X8_isLetter sh_1 rfl ⟨rfl, rfl, (by decide), (by decide)⟩ rfl (Nat.le_of_ble_eq_true rfl) rfl (mX8_isLetter (h.2 g1)) (k_I (fun r2 X3 Y4 h5 => ?_))
    refine v_if_eq (tgt := 24) O dX8_endOfWord_15 (by decide) (fun g6 => ?_) (fun g6 => ?_)
    · refine v_iload_n O dX8_endOfWord_24 rfl 1 rfl ?_
      exact v_iret O r dX8_endOfWord_25 ⟨_, rfl, (h5.1 g6)⟩
    · obtain ⟨w7, hw8⟩ : ∃ y : Int32, y = a2 + 1 := ⟨_, rfl⟩
      refine v_iinc (v := w7) (j := 1) O dX8_endOfWord_18 rfl (by rw [hw8]; exact congrArg _ kc_1) (by decide) (lv' := [(2, .int w7), (0, .ref 1)]) rfl ?_
      refine v_goto O dX8_endOfWord_21 (tgt := 2) (by decide) ?_
      exact v_loc [1, 0] rfl (e2 w7 X3 Y4 ((h5.2 g6) w7 hw8))
set_option maxHeartbeats 4000000 in
set_option maxRecDepth 100000 in
theorem kX8_endOfWord_s {Γ : Cxt} {Q : Int32 → XT → YT → Prop} (O : Ok Γ RX8 cX8_endOfWord 3 { frames := 2, cells := 0, slots := 0, locals := 43 }) (r : Ret Γ (some .int) (qI Q)) {I2 : Int32 → XT → YT → Prop} (e2 : ∀ (a2 : Int32) (X : XT) (Y : YT), I2 a2 X Y → V Γ 2 [(0, .ref 1), (2, .int a2)] [] X Y) {p0 : Int32} {X : XT} {Y : YT} (h : BX8_endOfWord_s I2 Q p0 X Y) : V Γ 0 [(0, .ref 1), (1, .int p0)] [] X Y := by
  refine v_iload_n O dX8_endOfWord_0 rfl 1 rfl ?_
  refine v_istore_n (lv' := [(2, .int p0), (0, .ref 1), (1, .int p0)]) O dX8_endOfWord_1 rfl (by decide) rfl ?_
  exact v_loc [1, 0] rfl (e2 p0 X Y h)
set_option maxRecDepth 100000 in
theorem mX8_endOfWord {Γ : Cxt} {p0 : Int32} {X : XT} {Y : YT} {Q : Int32 → XT → YT → Prop} (h : PX8_endOfWord p0 X Y Q) : MT Γ yX8_endOfWord (.code yX8_endOfWord cX8_endOfWord 3 (some .int) :: wl) { frames := 2, cells := 0, slots := 0, locals := 43 } [.ref 1, .int p0] X Y (qI Q) :=
  mt_of (by decide) (Nat.le_of_ble_eq_true rfl) (fun Γ _ O r => kX8_endOfWord_s O r (fun _ _ _ g => g) (h (fun a2 X Y => V Γ 2 [(0, .ref 1), (2, .int a2)] [] X Y) (fun _ _ _ g => kX8_endOfWord_2 O r (fun _ _ _ g => g) g)))
theorem dX8_isRowOfLetters_0 : decode cX8_isRowOfLetters 0 = .ok (.aload_n 0, 1) := by decide +kernel
theorem dX8_isRowOfLetters_1 : decode cX8_isRowOfLetters 1 = .ok (.getfield 15, 3) := by decide +kernel
theorem dX8_isRowOfLetters_4 : decode cX8_isRowOfLetters 4 = .ok (.ifCond .le 19, 3) := by decide +kernel
theorem dX8_isRowOfLetters_7 : decode cX8_isRowOfLetters 7 = .ok (.aload_n 0, 1) := by decide +kernel
theorem dX8_isRowOfLetters_8 : decode cX8_isRowOfLetters 8 = .ok (.iconst 0, 1) := by decide +kernel
theorem dX8_isRowOfLetters_9 : decode cX8_isRowOfLetters 9 = .ok (.invokevirtual 31, 3) := by decide +kernel
theorem dX8_isRowOfLetters_12 : decode cX8_isRowOfLetters 12 = .ok (.aload_n 0, 1) := by decide +kernel
theorem dX8_isRowOfLetters_13 : decode cX8_isRowOfLetters 13 = .ok (.getfield 15, 3) := by decide +kernel
theorem dX8_isRowOfLetters_16 : decode cX8_isRowOfLetters 16 = .ok (.if_icmp .ne 7, 3) := by decide +kernel
theorem dX8_isRowOfLetters_19 : decode cX8_isRowOfLetters 19 = .ok (.iconst 1, 1) := by decide +kernel
theorem dX8_isRowOfLetters_20 : decode cX8_isRowOfLetters 20 = .ok (.goto 4, 3) := by decide +kernel
theorem dX8_isRowOfLetters_23 : decode cX8_isRowOfLetters 23 = .ok (.iconst 0, 1) := by decide +kernel
theorem dX8_isRowOfLetters_24 : decode cX8_isRowOfLetters 24 = .ok (.ireturn, 1) := by decide +kernel
def BX8_isRowOfLetters_s (Q : Int32 → XT → YT → Prop) (X : XT) (Y : YT) : Prop :=
  (((X 1 1) ≤ 0 → Q 0 X Y) ∧ (¬ (X 1 1) ≤ 0 → PX8_endOfWord 0 X Y (fun r2 X3 Y4 => ((¬ r2 = (X3 1 1) → Q 0 X3 Y4) ∧ (r2 = (X3 1 1) → Q 1 X3 Y4)))))
def PX8_isRowOfLetters (X : XT) (Y : YT) (Q : Int32 → XT → YT → Prop) : Prop :=  BX8_isRowOfLetters_s Q X Y
set_option maxHeartbeats 4000000 in
set_option maxRecDepth 100000 in
theorem kX8_isRowOfLetters_s {Γ : Cxt} {Q : Int32 → XT → YT → Prop} (O : Ok Γ RX8 cX8_isRowOfLetters 1 { frames := 3, cells := 0, slots := 0, locals := 65 }) (r : Ret Γ (some .boolean) (qI Q)) {X : XT} {Y : YT} (h : BX8_isRowOfLetters_s Q X Y) : V Γ 0 [(0, .ref 1)] [] X Y := by
  refine v_aload_n O dX8_isRowOfLetters_0 rfl 0 rfl ?_
  refine v_get O dX8_isRowOfLetters_1 fo_X8_15 sh_1 rfl rfl ?_
  refine v_if_le (tgt := 23) O dX8_isRowOfLetters_4 (by decide) (fun g1 => ?_) (fun g1 => ?_)
  · refine v_iconst O dX8_isRowOfLetters_23 kc_0 ?_
    exact v_zret O r dX8_isRowOfLetters_24 (by decide) ⟨_, rfl, (h.1 g1)⟩
  · refine v_aload_n O dX8_isRowOfLetters_7 rfl 0 rfl ?_
    refine v_iconst O dX8_isRowOfLetters_8 kc_0 ?_
    refine v_callV (rm' := { frames := 2, cells := 0, slots := 0, locals := 43 }) (As := [.int 0]) (st := []) O dX8_isRowOfLetters_9 ci_X8_endOfWord ml_X8_31 mi_X8_endOfWord sh_1 rfl ⟨rfl, rfl, (by decide), (by decide)⟩ rfl (Nat.le_of_ble_eq_true rfl) rfl (mX8_endOfWord (h.2 g1)) (k_I (fun r2 X3 Y4 h5 => ?_))
    refine v_aload_n O dX8_isRowOfLetters_12 rfl 0 rfl ?_
    refine v_get O dX8_isRowOfLetters_13 fo_X8_15 sh_1 rfl rfl ?_
    refine v_icmp_ne (tgt := 23) O dX8_isRowOfLetters_16 (by decide) (fun g6 => ?_) (fun g6 => ?_)
    · refine v_iconst O dX8_isRowOfLetters_23 kc_0 ?_
      exact v_zret O r dX8_isRowOfLetters_24 (by decide) ⟨_, rfl, (h5.1 g6)⟩
    · refine v_iconst O dX8_isRowOfLetters_19 kc_1 ?_
      refine v_goto O dX8_isRowOfLetters_20 (tgt := 24) (by decide) ?_
      exact v_zret O r dX8_isRowOfLetters_24 (by decide) ⟨_, rfl, (h5.2 g6)⟩
set_option maxRecDepth 100000 in
theorem mX8_isRowOfLetters {Γ : Cxt} {X : XT} {Y : YT} {Q : Int32 → XT → YT → Prop} (h : PX8_isRowOfLetters X Y Q) : MT Γ yX8_isRowOfLetters (.code yX8_isRowOfLetters cX8_isRowOfLetters 1 (some .boolean) :: wl) { frames := 3, cells := 0, slots := 0, locals := 65 } [.ref 1] X Y (qI Q) :=
  mt_of (by decide) (Nat.le_of_ble_eq_true rfl) (fun Γ _ O r => kX8_isRowOfLetters_s O r  (h ))
theorem dX1_add_0 : decode cX1_add 0 = .ok (.aload_n 0, 1) := by decide +kernel
theorem dX1_add_1 : decode cX1_add 1 = .ok (.getfield 39, 3) := by decide +kernel
theorem dX1_add_4 : decode cX1_add 4 = .ok (.bipush 10, 2) := by decide +kernel
theorem dX1_add_6 : decode cX1_add 6 = .ok (.if_icmp .ge 19, 3) := by decide +kernel
theorem dX1_add_9 : decode cX1_add 9 = .ok (.aload_n 1, 1) := by decide +kernel
theorem dX1_add_10 : decode cX1_add 10 = .ok (.invokevirtual 70, 3) := by decide +kernel
theorem dX1_add_13 : decode cX1_add 13 = .ok (.ifCond .eq 12, 3) := by decide +kernel
theorem dX1_add_16 : decode cX1_add 16 = .ok (.aload_n 1, 1) := by decide +kernel
theorem dX1_add_17 : decode cX1_add 17 = .ok (.getfield 74, 3) := by decide +kernel
theorem dX1_add_20 : decode cX1_add 20 = .ok (.bipush 12, 2) := by decide +kernel
theorem dX1_add_22 : decode cX1_add 22 = .ok (.if_icmp .le 4, 3) := by decide +kernel
theorem dX1_add_25 : decode cX1_add 25 = .ok (.return_, 1) := by decide +kernel
theorem dX1_add_26 : decode cX1_add 26 = .ok (.aload_n 0, 1) := by decide +kernel
theorem dX1_add_27 : decode cX1_add 27 = .ok (.getfield 39, 3) := by decide +kernel
theorem dX1_add_30 : decode cX1_add 30 = .ok (.istore_n 2, 1) := by decide +kernel
theorem dX1_add_31 : decode cX1_add 31 = .ok (.aload_n 0, 1) := by decide +kernel
theorem dX1_add_32 : decode cX1_add 32 = .ok (.dup, 1) := by decide +kernel
theorem dX1_add_33 : decode cX1_add 33 = .ok (.getfield 39, 3) := by decide +kernel
theorem dX1_add_36 : decode cX1_add 36 = .ok (.iconst 1, 1) := by decide +kernel
theorem dX1_add_37 : decode cX1_add 37 = .ok (.iadd, 1) := by decide +kernel
theorem dX1_add_38 : decode cX1_add 38 = .ok (.putfield 39, 3) := by decide +kernel
theorem dX1_add_41 : decode cX1_add 41 = .ok (.aload_n 0, 1) := by decide +kernel
theorem dX1_add_42 : decode cX1_add 42 = .ok (.getfield 18, 3) := by decide +kernel
theorem dX1_add_45 : decode cX1_add 45 = .ok (.iload_n 2, 1) := by decide +kernel
theorem dX1_add_46 : decode cX1_add 46 = .ok (.aload_n 1, 1) := by decide +kernel
theorem dX1_add_47 : decode cX1_add 47 = .ok (.getfield 74, 3) := by decide +kernel
theorem dX1_add_50 : decode cX1_add 50 = .ok (.iastore, 1) := by decide +kernel
theorem dX1_add_51 : decode cX1_add 51 = .ok (.iconst 0, 1) := by decide +kernel
theorem dX1_add_52 : decode cX1_add 52 = .ok (.istore_n 3, 1) := by decide +kernel
theorem dX1_add_53 : decode cX1_add 53 = .ok (.iload_n 3, 1) := by decide +kernel
theorem dX1_add_54 : decode cX1_add 54 = .ok (.aload_n 1, 1) := by decide +kernel
theorem dX1_add_55 : decode cX1_add 55 = .ok (.getfield 74, 3) := by decide +kernel
theorem dX1_add_58 : decode cX1_add 58 = .ok (.if_icmp .ge 28, 3) := by decide +kernel
theorem dX1_add_61 : decode cX1_add 61 = .ok (.aload_n 0, 1) := by decide +kernel
theorem dX1_add_62 : decode cX1_add 62 = .ok (.getfield 15, 3) := by decide +kernel
theorem dX1_add_65 : decode cX1_add 65 = .ok (.iload_n 2, 1) := by decide +kernel
theorem dX1_add_66 : decode cX1_add 66 = .ok (.bipush 12, 2) := by decide +kernel
theorem dX1_add_68 : decode cX1_add 68 = .ok (.imul, 1) := by decide +kernel
theorem dX1_add_69 : decode cX1_add 69 = .ok (.iload_n 3, 1) := by decide +kernel
theorem dX1_add_70 : decode cX1_add 70 = .ok (.iadd, 1) := by decide +kernel
theorem dX1_add_71 : decode cX1_add 71 = .ok (.aload_n 1, 1) := by decide +kernel
theorem dX1_add_72 : decode cX1_add 72 = .ok (.iload_n 3, 1) := by decide +kernel
theorem dX1_add_73 : decode cX1_add 73 = .ok (.invokevirtual 65, 3) := by decide +kernel
theorem dX1_add_76 : decode cX1_add 76 = .ok (.bipush 97, 2) := by decide +kernel
theorem dX1_add_78 : decode cX1_add 78 = .ok (.isub, 1) := by decide +kernel
theorem dX1_add_79 : decode cX1_add 79 = .ok (.iastore, 1) := by decide +kernel
theorem dX1_add_80 : decode cX1_add 80 = .ok (.iinc 3 1, 3) := by decide +kernel
theorem dX1_add_83 : decode cX1_add 83 = .ok (.goto (-30), 3) := by decide +kernel
theorem dX1_add_86 : decode cX1_add 86 = .ok (.iconst 0, 1) := by decide +kernel
theorem dX1_add_87 : decode cX1_add 87 = .ok (.istore_n 3, 1) := by decide +kernel
theorem dX1_add_88 : decode cX1_add 88 = .ok (.iload_n 3, 1) := by decide +kernel
theorem dX1_add_89 : decode cX1_add 89 = .ok (.iconst 2, 1) := by decide +kernel
theorem dX1_add_90 : decode cX1_add 90 = .ok (.if_icmp .ge 15, 3) := by decide +kernel
theorem dX1_add_93 : decode cX1_add 93 = .ok (.aload_n 0, 1) := by decide +kernel
theorem dX1_add_94 : decode cX1_add 94 = .ok (.iload_n 2, 1) := by decide +kernel
theorem dX1_add_95 : decode cX1_add 95 = .ok (.iload_n 3, 1) := by decide +kernel
theorem dX1_add_96 : decode cX1_add 96 = .ok (.invokevirtual 57, 3) := by decide +kernel
theorem dX1_add_99 : decode cX1_add 99 = .ok (.iinc 3 1, 3) := by decide +kernel
theorem dX1_add_102 : decode cX1_add 102 = .ok (.goto (-14), 3) := by decide +kernel
theorem dX1_add_105 : decode cX1_add 105 = .ok (.aload_n 0, 1) := by decide +kernel
theorem dX1_add_106 : decode cX1_add 106 = .ok (.getfield 24, 3) := by decide +kernel
theorem dX1_add_109 : decode cX1_add 109 = .ok (.iload_n 2, 1) := by decide +kernel
theorem dX1_add_110 : decode cX1_add 110 = .ok (.iconst 4, 1) := by decide +kernel
theorem dX1_add_111 : decode cX1_add 111 = .ok (.invokestatic 53, 3) := by decide +kernel
theorem dX1_add_114 : decode cX1_add 114 = .ok (.iastore, 1) := by decide +kernel
theorem dX1_add_115 : decode cX1_add 115 = .ok (.aload_n 0, 1) := by decide +kernel
theorem dX1_add_116 : decode cX1_add 116 = .ok (.getfield 27, 3) := by decide +kernel
theorem dX1_add_119 : decode cX1_add 119 = .ok (.iload_n 2, 1) := by decide +kernel
theorem dX1_add_120 : decode cX1_add 120 = .ok (.iconst 0, 1) := by decide +kernel
theorem dX1_add_121 : decode cX1_add 121 = .ok (.iastore, 1) := by decide +kernel
theorem dX1_add_122 : decode cX1_add 122 = .ok (.aload_n 0, 1) := by decide +kernel
theorem dX1_add_123 : decode cX1_add 123 = .ok (.getfield 30, 3) := by decide +kernel
theorem dX1_add_126 : decode cX1_add 126 = .ok (.iload_n 2, 1) := by decide +kernel
theorem dX1_add_127 : decode cX1_add 127 = .ok (.bipush 99, 2) := by decide +kernel
theorem dX1_add_129 : decode cX1_add 129 = .ok (.iastore, 1) := by decide +kernel
theorem dX1_add_130 : decode cX1_add 130 = .ok (.aload_n 0, 1) := by decide +kernel
theorem dX1_add_131 : decode cX1_add 131 = .ok (.getfield 33, 3) := by decide +kernel
theorem dX1_add_134 : decode cX1_add 134 = .ok (.iload_n 2, 1) := by decide +kernel
theorem dX1_add_135 : decode cX1_add 135 = .ok (.iconst 1, 1) := by decide +kernel
theorem dX1_add_136 : decode cX1_add 136 = .ok (.iastore, 1) := by decide +kernel
theorem dX1_add_137 : decode cX1_add 137 = .ok (.return_, 1) := by decide +kernel
def BX1_add_53 (I53 : Int32 → Int32 → XT → YT → Prop) (I88 : Int32 → Int32 → XT → YT → Prop) (Q : XT → YT → Prop) (a2 : Int32) (a3 : Int32) (X : XT) (Y : YT) : Prop :=
  (((X 1 1) ≤ a3 → I88 a2 0 X Y) ∧ (¬ (X 1 1) ≤ a3 → PX8_at a3 X Y (fun r2 X3 Y4 => vp_in ((a2 * 12) + a3) 120 ∧ ∀ X6 : XT, X6 = sX X3 5 ((a2 * 12) + a3).toNatClampNeg (r2 - 97) → ∀ w8 : Int32, w8 = a3 + 1 → I53 a2 w8 X6 Y4)))
def BX1_add_88 (I53 : Int32 → Int32 → XT → YT → Prop) (I88 : Int32 → Int32 → XT → YT → Prop) (Q : XT → YT → Prop) (a2 : Int32) (a3 : Int32) (X : XT) (Y : YT) : Prop :=
  ((2 ≤ a3 → PX9_allBelow 4 X Y (fun r2 X3 Y4 => vp_in a2 10 ∧ vp_in a2 10 ∧ ∀ X6 : XT, X6 = sX (sX X3 8 a2.toNatClampNeg r2) 9 a2.toNatClampNeg 0 → vp_in a2 10 ∧ vp_in a2 10 ∧ ∀ X8 : XT, X8 = sX (sX X6 10 a2.toNatClampNeg 99) 11 a2.toNatClampNeg 1 → Q X8 Y4)) ∧ (¬ 2 ≤ a3 → PX1_measureName a2 a3 X Y (fun X11 Y12 => ∀ w14 : Int32, w14 = a3 + 1 → I88 a2 w14 X11 Y12)))
def BX1_add_s (I53 : Int32 → Int32 → XT → YT → Prop) (I88 : Int32 → Int32 → XT → YT → Prop) (Q : XT → YT → Prop) (X : XT) (Y : YT) : Prop :=
  ((10 ≤ (X 3 9) → Q X Y) ∧ (¬ 10 ≤ (X 3 9) → PX8_isRowOfLetters X Y (fun r2 X3 Y4 => ((r2 = 0 → Q X3 Y4) ∧ (¬ r2 = 0 → (((X3 1 1) ≤ 12 → ∀ w8 : Int32, w8 = (X3 3 9) → vp_in w8 10 ∧ ∀ X10 : XT, X10 = sX (sX X3 3 9 ((X3 3 9) + 1)) 6 w8.toNatClampNeg ((sX X3 3 9 ((X3 3 9) + 1)) 1 1) → I53 w8 0 X10 Y4) ∧ (¬ (X3 1 1) ≤ 12 → Q X3 Y4)))))))
def PX1_add (X : XT) (Y : YT) (Q : XT → YT → Prop) : Prop := ∀ (I53 : Int32 → Int32 → XT → YT → Prop) (I88 : Int32 → Int32 → XT → YT → Prop), (∀ (a2 : Int32) (a3 : Int32) (X : XT) (Y : YT), BX1_add_53 I53 I88 Q a2 a3 X Y → I53 a2 a3 X Y) → (∀ (a2 : Int32) (a3 : Int32) (X : XT) (Y : YT), BX1_add_88 I53 I88 Q a2 a3 X Y → I88 a2 a3 X Y) → BX1_add_s I53 I88 Q X Y
set_option maxHeartbeats 4000000 in
set_option maxRecDepth 100000 in
theorem kX1_add_53 {Γ : Cxt} {Q : XT → YT → Prop} (O : Ok Γ RX1 cX1_add 4 { frames := 4, cells := 0, slots := 0, locals := 85 }) (r : Ret Γ none (qV Q)) {I53 : Int32 → Int32 → XT → YT → Prop} {I88 : Int32 → Int32 → XT → YT → Prop} (e53 : ∀ (a2 : Int32) (a3 : Int32) (X : XT) (Y : YT), I53 a2 a3 X Y → V Γ 53 [(0, .ref 3), (1, .ref 1), (2, .int a2), (3, .int a3)] [] X Y) (e88 : ∀ (a2 : Int32) (a3 : Int32) (X : XT) (Y : YT), I88 a2 a3 X Y → V Γ 88 [(0, .ref 3), (2, .int a2), (3, .int a3)] [] X Y) {a2 : Int32} {a3 : Int32} {X : XT} {Y : YT} (h : BX1_add_53 I53 I88 Q a2 a3 X Y) : V Γ 53 [(0, .ref 3), (1, .ref 1), (2, .int a2), (3, .int a3)] [] X Y := by
  refine v_iload_n O dX1_add_53 rfl 3 rfl ?_
  refine v_aload_n O dX1_add_54 rfl 1 rfl ?_
  refine v_get O dX1_add_55 fo_X1_74 sh_1 rfl rfl ?_
  refine v_icmp_ge (tgt := 86) O dX1_add_58 (by decide) (fun g1 => ?_) (fun g1 => ?_)
  · refine v_iconst O dX1_add_86 kc_0 ?_
    refine v_istore_n (lv' := [(3, .int 0), (0, .ref 3), (1, .ref 1), (2, .int a2)]) O dX1_add_87 rfl (by decide) rfl ?_
    exact v_loc [1, 3, 0] rfl (e88 a2 0 X Y (h.1 g1))
  · refine v_aload_n O dX1_add_61 rfl 0 rfl ?_
    refine v_get O dX1_add_62 fo_X1_15 sh_3 rfl rfl ?_
    refine v_iload_n O dX1_add_65 rfl 2 rfl ?_
    refine v_bipush O dX1_add_66 kb_12 ?_
    refine v_imul O dX1_add_68 ?_
    refine v_iload_n O dX1_add_69 rfl 3 rfl ?_
    refine v_iadd O dX1_add_70 ?_
    refine v_aload_n O dX1_add_71 rfl 1 rfl ?_
    refine v_iload_n O dX1_add_72 rfl 3 rfl ?_
    refine v_callV (rm' := { frames := 0, cells := 0, slots := 0, locals := 0 }) (As := [.int a3]) (st := [.int ((a2 * 12) + a3), .ref 5]) O dX1_add_73 ci_X8_at ml_X1_65 mi_X8_at sh_1 rfl ⟨rfl, rfl, (by decide), (by decide)⟩ rfl (Nat.le_of_ble_eq_true rfl) rfl (mX8_at (h.2 g1)) (k_I (fun r2 X3 Y4 h5 => ?_))
    refine v_bipush O dX1_add_76 kb_97 ?_
    refine v_isub O dX1_add_78 ?_
    refine v_iast O dX1_add_79 sh_5 h5.1 ?_
    refine v_nmX (fun X6 hX7 => ?_)
    obtain ⟨w8, hw9⟩ : ∃ y : Int32, y = a3 + 1 := ⟨_, rfl⟩
    refine v_iinc (v := w8) (j := 3) O dX1_add_80 rfl (by rw [hw9]; exact congrArg _ kc_1) (by decide) (lv' := [(3, .int w8), (0, .ref 3), (1, .ref 1), (2, .int a2)]) rfl ?_
    refine v_goto O dX1_add_83 (tgt := 53) (by decide) ?_
    exact v_loc [1, 2, 3, 0] rfl (e53 a2 w8 X6 Y4 ((h5.2 X6 hX7) w8 hw9))
set_option maxHeartbeats 4000000 in
set_option maxRecDepth 100000 in
theorem kX1_add_88 {Γ : Cxt} {Q : XT → YT → Prop} (O : Ok Γ RX1 cX1_add 4 { frames := 4, cells := 0, slots := 0, locals := 85 }) (r : Ret Γ none (qV Q)) {I53 : Int32 → Int32 → XT → YT → Prop} {I88 : Int32 → Int32 → XT → YT → Prop} (e53 : ∀ (a2 : Int32) (a3 : Int32) (X : XT) (Y : YT), I53 a2 a3 X Y → V Γ 53 [(0, .ref 3), (1, .ref 1), (2, .int a2), (3, .int a3)] [] X Y) (e88 : ∀ (a2 : Int32) (a3 : Int32) (X : XT) (Y : YT), I88 a2 a3 X Y → V Γ 88 [(0, .ref 3), (2, .int a2), (3, .int a3)] [] X Y) {a2 : Int32} {a3 : Int32} {X : XT} {Y : YT} (h : BX1_add_88 I53 I88 Q a2 a3 X Y) : V Γ 88 [(0, .ref 3), (2, .int a2), (3, .int a3)] [] X Y := by
  refine v_iload_n O dX1_add_88 rfl 2 rfl ?_
  refine v_iconst O dX1_add_89 kc_2 ?_
  refine v_icmp_ge (tgt := 105) O dX1_add_90 (by decide) (fun g1 => ?_) (fun g1 => ?_)
  · refine v_aload_n O dX1_add_105 rfl 0 rfl ?_
    refine v_get O dX1_add_106 fo_X1_24 sh_3 rfl rfl ?_
    refine v_iload_n O dX1_add_109 rfl 1 rfl ?_
    refine v_iconst O dX1_add_110 kc_4 ?_
    refine v_callN (rm' := { frames := 0, cells := 0, slots := 0, locals := 0 }) (As := [.int 4]) (st := [.int a2, .ref 8]) O dX1_add_111 ci_X9_allBelow ml_X1_53 ms_X9_allBelow ⟨rfl, rfl, (by decide), (by decide)⟩ rfl (Nat.le_of_ble_eq_true rfl) rfl (mX9_allBelow (h.1 g1)) (k_I (fun r2 X3 Y4 h5 => ?_))
    refine v_iast O dX1_add_114 sh_8 h5.1 ?_
    refine v_aload_n O dX1_add_115 rfl 0 rfl ?_
    refine v_get O dX1_add_116 fo_X1_27 sh_3 rfl rfl ?_
    refine v_iload_n O dX1_add_119 rfl 1 rfl ?_
    refine v_iconst O dX1_add_120 kc_0 ?_
    refine v_iast O dX1_add_121 sh_9 h5.2.1 ?_
    refine v_nmX (fun X6 hX7 => ?_)
    refine v_aload_n O dX1_add_122 rfl 0 rfl ?_
    refine v_get O dX1_add_123 fo_X1_30 sh_3 rfl rfl ?_
    refine v_iload_n O dX1_add_126 rfl 1 rfl ?_
    refine v_bipush O dX1_add_127 kb_99 ?_
    refine v_iast O dX1_add_129 sh_10 (h5.2.2 X6 hX7).1 ?_
    refine v_aload_n O dX1_add_130 rfl 0 rfl ?_
    refine v_get O dX1_add_131 fo_X1_33 sh_3 rfl rfl ?_
    refine v_iload_n O dX1_add_134 rfl 1 rfl ?_
    refine v_iconst O dX1_add_135 kc_1 ?_
    refine v_iast O dX1_add_136 sh_11 (h5.2.2 X6 hX7).2.1 ?_
    refine v_nmX (fun X8 hX9 => ?_)
    exact v_vret O r dX1_add_137 ⟨rfl, ((h5.2.2 X6 hX7).2.2 X8 hX9)⟩
  · refine v_aload_n O dX1_add_93 rfl 0 rfl ?_
    refine v_iload_n O dX1_add_94 rfl 1 rfl ?_
    refine v_iload_n O dX1_add_95 rfl 2 rfl ?_
    refine v_callV (rm' := { frames := 0, cells := 0, slots := 0, locals := 0 }) (As := [.int a2, .int a3]) (st := []) O dX1_add_96 ci_X1_measureName ml_X1_57 mi_X1_measureName sh_3 rfl ⟨rfl, rfl, (by decide), (by decide)⟩ rfl (Nat.le_of_ble_eq_true rfl) rfl (mX1_measureName (h.2 g1)) (k_V (fun X11 Y12 h13 => ?_))
    obtain ⟨w14, hw15⟩ : ∃ y : Int32, y = a3 + 1 := ⟨_, rfl⟩
    refine v_iinc (v := w14) (j := 2) O dX1_add_99 rfl (by rw [hw15]; exact congrArg _ kc_1) (by decide) (lv' := [(3, .int w14), (0, .ref 3), (2, .int a2)]) rfl ?_
    refine v_goto O dX1_add_102 (tgt := 88) (by decide) ?_
    exact v_loc [1, 2, 0] rfl (e88 a2 w14 X11 Y12 (h13 w14 hw15))
set_option maxHeartbeats 4000000 in
set_option maxRecDepth 100000 in
theorem kX1_add_s {Γ : Cxt} {Q : XT → YT → Prop} (O : Ok Γ RX1 cX1_add 4 { frames := 4, cells := 0, slots := 0, locals := 85 }) (r : Ret Γ none (qV Q)) {I53 : Int32 → Int32 → XT → YT → Prop} {I88 : Int32 → Int32 → XT → YT → Prop} (e53 : ∀ (a2 : Int32) (a3 : Int32) (X : XT) (Y : YT), I53 a2 a3 X Y → V Γ 53 [(0, .ref 3), (1, .ref 1), (2, .int a2), (3, .int a3)] [] X Y) (e88 : ∀ (a2 : Int32) (a3 : Int32) (X : XT) (Y : YT), I88 a2 a3 X Y → V Γ 88 [(0, .ref 3), (2, .int a2), (3, .int a3)] [] X Y) {X : XT} {Y : YT} (h : BX1_add_s I53 I88 Q X Y) : V Γ 0 [(0, .ref 3), (1, .ref 1)] [] X Y := by
  refine v_aload_n O dX1_add_0 rfl 0 rfl ?_
  refine v_get O dX1_add_1 fo_X1_39 sh_3 rfl rfl ?_
  refine v_bipush O dX1_add_4 kb_10 ?_
  refine v_icmp_ge (tgt := 25) O dX1_add_6 (by decide) (fun g1 => ?_) (fun g1 => ?_)
  · exact v_vret O r dX1_add_25 ⟨rfl, (h.1 g1)⟩
  · refine v_aload_n O dX1_add_9 rfl 1 rfl ?_
    refine v_callV (rm' := { frames := 3, cells := 0, slots := 0, locals := 65 }) (As := []) (st := []) O dX1_add_10 ci_X8_isRowOfLetters ml_X1_70 mi_X8_isRowOfLetters sh_1 rfl ⟨rfl, rfl, (by decide), (by decide)⟩ rfl (Nat.le_of_ble_eq_true rfl) rfl (mX8_isRowOfLetters (h.2 g1)) (k_I (fun r2 X3 Y4 h5 => ?_))
    refine v_if_eq (tgt := 25) O dX1_add_13 (by decide) (fun g6 => ?_) (fun g6 => ?_)
    · exact v_vret O r dX1_add_25 ⟨rfl, (h5.1 g6)⟩
    · refine v_aload_n O dX1_add_16 rfl 1 rfl ?_
      refine v_get O dX1_add_17 fo_X1_74 sh_1 rfl rfl ?_
      refine v_bipush O dX1_add_20 kb_12 ?_
      refine v_icmp_le (tgt := 26) O dX1_add_22 (by decide) (fun g7 => ?_) (fun g7 => ?_)
      · refine v_aload_n O dX1_add_26 rfl 0 rfl ?_
        refine v_get O dX1_add_27 fo_X1_39 sh_3 rfl rfl ?_
        refine v_topi (fun w8 hw9 => ?_)
        refine v_istore_n (lv' := [(2, .int w8), (0, .ref 3), (1, .ref 1)]) O dX1_add_30 rfl (by decide) rfl ?_
        refine v_aload_n O dX1_add_31 rfl 1 rfl ?_
        refine v_dup O dX1_add_32 rfl ?_
        refine v_get O dX1_add_33 fo_X1_39 sh_3 rfl rfl ?_
        refine v_iconst O dX1_add_36 kc_1 ?_
        refine v_iadd O dX1_add_37 ?_
        refine v_putI O dX1_add_38 fo_X1_39 fp_1_9 sh_3 rfl rfl rfl ?_
        refine v_aload_n O dX1_add_41 rfl 1 rfl ?_
        refine v_get O dX1_add_42 fo_X1_18 sh_3 rfl rfl ?_
        refine v_iload_n O dX1_add_45 rfl 0 rfl ?_
        refine v_aload_n O dX1_add_46 rfl 2 rfl ?_
        refine v_get O dX1_add_47 fo_X1_74 sh_1 rfl rfl ?_
        refine v_iast O dX1_add_50 sh_6 (((h5.2 g6).1 g7) w8 hw9).1 ?_
        refine v_nmX (fun X10 hX11 => ?_)
        refine v_iconst O dX1_add_51 kc_0 ?_
        refine v_istore_n (lv' := [(3, .int 0), (2, .int w8), (0, .ref 3), (1, .ref 1)]) O dX1_add_52 rfl (by decide) rfl ?_
        exact v_loc [2, 3, 1, 0] rfl (e53 w8 0 X10 Y4 ((((h5.2 g6).1 g7) w8 hw9).2 X10 hX11))
      · exact v_vret O r dX1_add_25 ⟨rfl, ((h5.2 g6).2 g7)⟩
set_option maxRecDepth 100000 in
theorem mX1_add {Γ : Cxt} {X : XT} {Y : YT} {Q : XT → YT → Prop} (h : PX1_add X Y Q) : MT Γ yX1_add (.code yX1_add cX1_add 4 none :: wl) { frames := 4, cells := 0, slots := 0, locals := 85 } [.ref 3, .ref 1] X Y (qV Q) :=
  mt_of (by decide) (Nat.le_of_ble_eq_true rfl) (fun Γ _ O r => kX1_add_s O r (fun _ _ _ _ g => g) (fun _ _ _ _ g => g) (h (fun a2 a3 X Y => V Γ 53 [(0, .ref 3), (1, .ref 1), (2, .int a2), (3, .int a3)] [] X Y) (fun a2 a3 X Y => V Γ 88 [(0, .ref 3), (2, .int a2), (3, .int a3)] [] X Y) (fun _ _ _ _ g => kX1_add_53 O r (fun _ _ _ _ g => g) (fun _ _ _ _ g => g) g) (fun _ _ _ _ g => kX1_add_88 O r (fun _ _ _ _ g => g) (fun _ _ _ _ g => g) g)))
theorem dX1_setApart_0 : decode cX1_setApart 0 = .ok (.aload_n 0, 1) := by decide +kernel
theorem dX1_setApart_1 : decode cX1_setApart 1 = .ok (.getfield 36, 3) := by decide +kernel
theorem dX1_setApart_4 : decode cX1_setApart 4 = .ok (.iload_n 1, 1) := by decide +kernel
theorem dX1_setApart_5 : decode cX1_setApart 5 = .ok (.iaload, 1) := by decide +kernel
theorem dX1_setApart_6 : decode cX1_setApart 6 = .ok (.iload_n 2, 1) := by decide +kernel
theorem dX1_setApart_7 : decode cX1_setApart 7 = .ok (.invokestatic 75, 3) := by decide +kernel
theorem dX1_setApart_10 : decode cX1_setApart 10 = .ok (.istore 4, 2) := by decide +kernel
theorem dX1_setApart_12 : decode cX1_setApart 12 = .ok (.iload 4, 2) := by decide +kernel
theorem dX1_setApart_14 : decode cX1_setApart 14 = .ok (.iload_n 3, 1) := by decide +kernel
theorem dX1_setApart_15 : decode cX1_setApart 15 = .ok (.if_icmp .eq 27, 3) := by decide +kernel
theorem dX1_setApart_18 : decode cX1_setApart 18 = .ok (.aload_n 0, 1) := by decide +kernel
theorem dX1_setApart_19 : decode cX1_setApart 19 = .ok (.getfield 36, 3) := by decide +kernel
theorem dX1_setApart_22 : decode cX1_setApart 22 = .ok (.iload_n 1, 1) := by decide +kernel
theorem dX1_setApart_23 : decode cX1_setApart 23 = .ok (.dup2, 1) := by decide +kernel
theorem dX1_setApart_24 : decode cX1_setApart 24 = .ok (.iaload, 1) := by decide +kernel
theorem dX1_setApart_25 : decode cX1_setApart 25 = .ok (.iconst 1, 1) := by decide +kernel
theorem dX1_setApart_26 : decode cX1_setApart 26 = .ok (.iload_n 2, 1) := by decide +kernel
theorem dX1_setApart_27 : decode cX1_setApart 27 = .ok (.ishl, 1) := by decide +kernel
theorem dX1_setApart_28 : decode cX1_setApart 28 = .ok (.ixor, 1) := by decide +kernel
theorem dX1_setApart_29 : decode cX1_setApart 29 = .ok (.iastore, 1) := by decide +kernel
theorem dX1_setApart_30 : decode cX1_setApart 30 = .ok (.aload_n 0, 1) := by decide +kernel
theorem dX1_setApart_31 : decode cX1_setApart 31 = .ok (.getfield 36, 3) := by decide +kernel
theorem dX1_setApart_34 : decode cX1_setApart 34 = .ok (.iload_n 2, 1) := by decide +kernel
theorem dX1_setApart_35 : decode cX1_setApart 35 = .ok (.dup2, 1) := by decide +kernel
theorem dX1_setApart_36 : decode cX1_setApart 36 = .ok (.iaload, 1) := by decide +kernel
theorem dX1_setApart_37 : decode cX1_setApart 37 = .ok (.iconst 1, 1) := by decide +kernel
theorem dX1_setApart_38 : decode cX1_setApart 38 = .ok (.iload_n 1, 1) := by decide +kernel
theorem dX1_setApart_39 : decode cX1_setApart 39 = .ok (.ishl, 1) := by decide +kernel
theorem dX1_setApart_40 : decode cX1_setApart 40 = .ok (.ixor, 1) := by decide +kernel
theorem dX1_setApart_41 : decode cX1_setApart 41 = .ok (.iastore, 1) := by decide +kernel
theorem dX1_setApart_42 : decode cX1_setApart 42 = .ok (.iload 4, 2) := by decide +kernel
theorem dX1_setApart_44 : decode cX1_setApart 44 = .ok (.ireturn, 1) := by decide +kernel
def BX1_setApart_s (Q : Int32 → XT → YT → Prop) (p0 : Int32) (p1 : Int32) (p2 : Int32) (X : XT) (Y : YT) : Prop :=
  vp_in p0 10 ∧ PX9_has (X 12 p0.toNatClampNeg) p1 X Y (fun r1 X2 Y3 => ((r1 = p2 → narrow .boolean (.int r1) = .int r1 ∧ Q r1 X2 Y3) ∧ (¬ r1 = p2 → vp_in p0 10 ∧ vp_in p0 10 ∧ ∀ X6 : XT, X6 = sX X2 12 p0.toNatClampNeg ((X2 12 p0.toNatClampNeg) ^^^ (1 <<< (p1 &&& 31))) → vp_in p1 10 ∧ vp_in p1 10 ∧ ∀ X8 : XT, X8 = sX X6 12 p1.toNatClampNeg ((X6 12 p1.toNatClampNeg) ^^^ (1 <<< (p0 &&& 31))) → narrow .boolean (.int r1) = .int r1 ∧ Q r1 X8 Y3)))
def PX1_setApart (p0 : Int32) (p1 : Int32) (p2 : Int32) (X : XT) (Y : YT) (Q : Int32 → XT → YT → Prop) : Prop :=  BX1_setApart_s Q p0 p1 p2 X Y
set_option maxHeartbeats 4000000 in
set_option maxRecDepth 100000 in
theorem kX1_setApart_s {Γ : Cxt} {Q : Int32 → XT → YT → Prop} (O : Ok Γ RX1 cX1_setApart 5 { frames := 1, cells := 0, slots := 0, locals := 21 }) (r : Ret Γ (some .boolean) (qI Q)) {p0 : Int32} {p1 : Int32} {p2 : Int32} {X : XT} {Y : YT} (h : BX1_setApart_s Q p0 p1 p2 X Y) : V Γ 0 [(0, .ref 3), (1, .int p0), (2, .int p1), (3, .int p2)] [] X Y := by
  refine v_aload_n O dX1_setApart_0 rfl 0 rfl ?_
  refine v_get O dX1_setApart_1 fo_X1_36 sh_3 rfl rfl ?_
  refine v_iload_n O dX1_setApart_4 rfl 1 rfl ?_
  refine v_iald O dX1_setApart_5 sh_12 h.1 ?_
  refine v_iload_n O dX1_setApart_6 rfl 2 rfl ?_
  refine v_callN (rm' := { frames := 0, cells := 0, slots := 0, locals := 0 }) (As := [.int (X 12 p0.toNatClampNeg), .int p1]) (st := []) O dX1_setApart_7 ci_X9_has ml_X1_75 ms_X9_has ⟨rfl, rfl, (by decide), (by decide)⟩ rfl (Nat.le_of_ble_eq_true rfl) rfl (mX9_has h.2) (k_I (fun r1 X2 Y3 h4 => ?_))
  refine v_istore (lv' := [(4, .int r1), (0, .ref 3), (1, .int p0), (2, .int p1), (3, .int p2)]) O dX1_setApart_10 (by decide) rfl ?_
  refine v_iload O dX1_setApart_12 0 rfl ?_
  refine v_iload_n O dX1_setApart_14 rfl 4 rfl ?_
  refine v_icmp_eq (tgt := 42) O dX1_setApart_15 (by decide) (fun g5 => ?_) (fun g5 => ?_)
  · refine v_iload O dX1_setApart_42 0 rfl ?_
    exact v_zret O r dX1_setApart_44 (h4.1 g5).1 ⟨_, rfl, (h4.1 g5).2⟩
  · refine v_aload_n O dX1_setApart_18 rfl 1 rfl ?_
    refine v_get O dX1_setApart_19 fo_X1_36 sh_3 rfl rfl ?_
    refine v_iload_n O dX1_setApart_22 rfl 2 rfl ?_
    refine v_dup2 O dX1_setApart_23 rfl rfl ?_
    refine v_iald O dX1_setApart_24 sh_12 (h4.2 g5).1 ?_
    refine v_iconst O dX1_setApart_25 kc_1 ?_
    refine v_iload_n O dX1_setApart_26 rfl 3 rfl ?_
    refine v_ishl O dX1_setApart_27 ?_
    refine v_ixor O dX1_setApart_28 ?_
    refine v_iast O dX1_setApart_29 sh_12 (h4.2 g5).2.1 ?_
    refine v_nmX (fun X6 hX7 => ?_)
    refine v_aload_n O dX1_setApart_30 rfl 1 rfl ?_
    refine v_get O dX1_setApart_31 fo_X1_36 sh_3 rfl rfl ?_
    refine v_iload_n O dX1_setApart_34 rfl 3 rfl ?_
    refine v_dup2 O dX1_setApart_35 rfl rfl ?_
    refine v_iald O dX1_setApart_36 sh_12 ((h4.2 g5).2.2 X6 hX7).1 ?_
    refine v_iconst O dX1_setApart_37 kc_1 ?_
    refine v_iload_n O dX1_setApart_38 rfl 2 rfl ?_
    refine v_ishl O dX1_setApart_39 ?_
    refine v_ixor O dX1_setApart_40 ?_
    refine v_iast O dX1_setApart_41 sh_12 ((h4.2 g5).2.2 X6 hX7).2.1 ?_
    refine v_nmX (fun X8 hX9 => ?_)
    refine v_iload O dX1_setApart_42 0 rfl ?_
    exact v_zret O r dX1_setApart_44 (((h4.2 g5).2.2 X6 hX7).2.2 X8 hX9).1 ⟨_, rfl, (((h4.2 g5).2.2 X6 hX7).2.2 X8 hX9).2⟩
set_option maxRecDepth 100000 in
theorem mX1_setApart {Γ : Cxt} {p0 : Int32} {p1 : Int32} {p2 : Int32} {X : XT} {Y : YT} {Q : Int32 → XT → YT → Prop} (h : PX1_setApart p0 p1 p2 X Y Q) : MT Γ yX1_setApart (.code yX1_setApart cX1_setApart 5 (some .boolean) :: wl) { frames := 1, cells := 0, slots := 0, locals := 21 } [.ref 3, .int p0, .int p1, .int p2] X Y (qI Q) :=
  mt_of (by decide) (Nat.le_of_ble_eq_true rfl) (fun Γ _ O r => kX1_setApart_s O r  (h ))
theorem dJ6_bitCount_0f7a4_0 : decode cJ6_bitCount_0f7a4 0 = .ok (.iload_n 0, 1) := by decide +kernel
theorem dJ6_bitCount_0f7a4_1 : decode cJ6_bitCount_0f7a4 1 = .ok (.iload_n 0, 1) := by decide +kernel
theorem dJ6_bitCount_0f7a4_2 : decode cJ6_bitCount_0f7a4 2 = .ok (.iconst 1, 1) := by decide +kernel
theorem dJ6_bitCount_0f7a4_3 : decode cJ6_bitCount_0f7a4 3 = .ok (.iushr, 1) := by decide +kernel
theorem dJ6_bitCount_0f7a4_4 : decode cJ6_bitCount_0f7a4 4 = .ok (.ldc_w 265, 3) := by decide +kernel
theorem dJ6_bitCount_0f7a4_7 : decode cJ6_bitCount_0f7a4 7 = .ok (.iand, 1) := by decide +kernel
theorem dJ6_bitCount_0f7a4_8 : decode cJ6_bitCount_0f7a4 8 = .ok (.isub, 1) := by decide +kernel
theorem dJ6_bitCount_0f7a4_9 : decode cJ6_bitCount_0f7a4 9 = .ok (.istore_n 0, 1) := by decide +kernel
theorem dJ6_bitCount_0f7a4_10 : decode cJ6_bitCount_0f7a4 10 = .ok (.iload_n 0, 1) := by decide +kernel
theorem dJ6_bitCount_0f7a4_11 : decode cJ6_bitCount_0f7a4 11 = .ok (.ldc_w 266, 3) := by decide +kernel
theorem dJ6_bitCount_0f7a4_14 : decode cJ6_bitCount_0f7a4 14 = .ok (.iand, 1) := by decide +kernel
theorem dJ6_bitCount_0f7a4_15 : decode cJ6_bitCount_0f7a4 15 = .ok (.iload_n 0, 1) := by decide +kernel
theorem dJ6_bitCount_0f7a4_16 : decode cJ6_bitCount_0f7a4 16 = .ok (.iconst 2, 1) := by decide +kernel
theorem dJ6_bitCount_0f7a4_17 : decode cJ6_bitCount_0f7a4 17 = .ok (.iushr, 1) := by decide +kernel
theorem dJ6_bitCount_0f7a4_18 : decode cJ6_bitCount_0f7a4 18 = .ok (.ldc_w 266, 3) := by decide +kernel
theorem dJ6_bitCount_0f7a4_21 : decode cJ6_bitCount_0f7a4 21 = .ok (.iand, 1) := by decide +kernel
theorem dJ6_bitCount_0f7a4_22 : decode cJ6_bitCount_0f7a4 22 = .ok (.iadd, 1) := by decide +kernel
theorem dJ6_bitCount_0f7a4_23 : decode cJ6_bitCount_0f7a4 23 = .ok (.istore_n 0, 1) := by decide +kernel
theorem dJ6_bitCount_0f7a4_24 : decode cJ6_bitCount_0f7a4 24 = .ok (.iload_n 0, 1) := by decide +kernel
theorem dJ6_bitCount_0f7a4_25 : decode cJ6_bitCount_0f7a4 25 = .ok (.iload_n 0, 1) := by decide +kernel
theorem dJ6_bitCount_0f7a4_26 : decode cJ6_bitCount_0f7a4 26 = .ok (.iconst 4, 1) := by decide +kernel
theorem dJ6_bitCount_0f7a4_27 : decode cJ6_bitCount_0f7a4 27 = .ok (.iushr, 1) := by decide +kernel
theorem dJ6_bitCount_0f7a4_28 : decode cJ6_bitCount_0f7a4 28 = .ok (.iadd, 1) := by decide +kernel
theorem dJ6_bitCount_0f7a4_29 : decode cJ6_bitCount_0f7a4 29 = .ok (.ldc_w 267, 3) := by decide +kernel
theorem dJ6_bitCount_0f7a4_32 : decode cJ6_bitCount_0f7a4 32 = .ok (.iand, 1) := by decide +kernel
theorem dJ6_bitCount_0f7a4_33 : decode cJ6_bitCount_0f7a4 33 = .ok (.istore_n 0, 1) := by decide +kernel
theorem dJ6_bitCount_0f7a4_34 : decode cJ6_bitCount_0f7a4 34 = .ok (.iload_n 0, 1) := by decide +kernel
theorem dJ6_bitCount_0f7a4_35 : decode cJ6_bitCount_0f7a4 35 = .ok (.iload_n 0, 1) := by decide +kernel
theorem dJ6_bitCount_0f7a4_36 : decode cJ6_bitCount_0f7a4 36 = .ok (.bipush 8, 2) := by decide +kernel
theorem dJ6_bitCount_0f7a4_38 : decode cJ6_bitCount_0f7a4 38 = .ok (.iushr, 1) := by decide +kernel
theorem dJ6_bitCount_0f7a4_39 : decode cJ6_bitCount_0f7a4 39 = .ok (.iadd, 1) := by decide +kernel
theorem dJ6_bitCount_0f7a4_40 : decode cJ6_bitCount_0f7a4 40 = .ok (.istore_n 0, 1) := by decide +kernel
theorem dJ6_bitCount_0f7a4_41 : decode cJ6_bitCount_0f7a4 41 = .ok (.iload_n 0, 1) := by decide +kernel
theorem dJ6_bitCount_0f7a4_42 : decode cJ6_bitCount_0f7a4 42 = .ok (.iload_n 0, 1) := by decide +kernel
theorem dJ6_bitCount_0f7a4_43 : decode cJ6_bitCount_0f7a4 43 = .ok (.bipush 16, 2) := by decide +kernel
theorem dJ6_bitCount_0f7a4_45 : decode cJ6_bitCount_0f7a4 45 = .ok (.iushr, 1) := by decide +kernel
theorem dJ6_bitCount_0f7a4_46 : decode cJ6_bitCount_0f7a4 46 = .ok (.iadd, 1) := by decide +kernel
theorem dJ6_bitCount_0f7a4_47 : decode cJ6_bitCount_0f7a4 47 = .ok (.istore_n 0, 1) := by decide +kernel
theorem dJ6_bitCount_0f7a4_48 : decode cJ6_bitCount_0f7a4 48 = .ok (.iload_n 0, 1) := by decide +kernel
theorem dJ6_bitCount_0f7a4_49 : decode cJ6_bitCount_0f7a4 49 = .ok (.bipush 63, 2) := by decide +kernel
theorem dJ6_bitCount_0f7a4_51 : decode cJ6_bitCount_0f7a4 51 = .ok (.iand, 1) := by decide +kernel
theorem dJ6_bitCount_0f7a4_52 : decode cJ6_bitCount_0f7a4 52 = .ok (.ireturn, 1) := by decide +kernel
def BJ6_bitCount_0f7a4_s (Q : Int32 → XT → YT → Prop) (p0 : Int32) (X : XT) (Y : YT) : Prop :=
  ∀ w1 : Int32, w1 = (p0 - (((p0.toUInt32 >>> ((1 : Int32).toUInt32 &&& Int32.toUInt32 31)).toInt32) &&& 1431655765)) → ∀ w3 : Int32, w3 = ((w1 &&& 858993459) + (((w1.toUInt32 >>> ((2 : Int32).toUInt32 &&& Int32.toUInt32 31)).toInt32) &&& 858993459)) → ∀ w5 : Int32, w5 = ((w3 + ((w3.toUInt32 >>> ((4 : Int32).toUInt32 &&& Int32.toUInt32 31)).toInt32)) &&& 252645135) → ∀ w7 : Int32, w7 = (w5 + ((w5.toUInt32 >>> ((8 : Int32).toUInt32 &&& Int32.toUInt32 31)).toInt32)) → ∀ w9 : Int32, w9 = (w7 + ((w7.toUInt32 >>> ((16 : Int32).toUInt32 &&& Int32.toUInt32 31)).toInt32)) → Q (w9 &&& 63) X Y
def PJ6_bitCount_0f7a4 (p0 : Int32) (X : XT) (Y : YT) (Q : Int32 → XT → YT → Prop) : Prop :=  BJ6_bitCount_0f7a4_s Q p0 X Y
set_option maxHeartbeats 4000000 in
set_option maxRecDepth 100000 in
theorem kJ6_bitCount_0f7a4_s {Γ : Cxt} {Q : Int32 → XT → YT → Prop} (O : Ok Γ RJ6 cJ6_bitCount_0f7a4 1 { frames := 0, cells := 0, slots := 0, locals := 0 }) (r : Ret Γ (some .int) (qI Q)) {p0 : Int32} {X : XT} {Y : YT} (h : BJ6_bitCount_0f7a4_s Q p0 X Y) : V Γ 0 [(0, .int p0)] [] X Y := by
  refine v_iload_n O dJ6_bitCount_0f7a4_0 rfl 0 rfl ?_
  refine v_iload_n O dJ6_bitCount_0f7a4_1 rfl 0 rfl ?_
  refine v_iconst O dJ6_bitCount_0f7a4_2 kc_1 ?_
  refine v_iushr O dJ6_bitCount_0f7a4_3 ?_
  refine v_ldcw O dJ6_bitCount_0f7a4_4 ki_J6_265 ?_
  refine v_iand O dJ6_bitCount_0f7a4_7 ?_
  refine v_isub O dJ6_bitCount_0f7a4_8 ?_
  refine v_topi (fun w1 hw2 => ?_)
  refine v_istore_n (lv' := [(0, .int w1)]) O dJ6_bitCount_0f7a4_9 rfl (by decide) rfl ?_
  refine v_iload_n O dJ6_bitCount_0f7a4_10 rfl 0 rfl ?_
  refine v_ldcw O dJ6_bitCount_0f7a4_11 ki_J6_266 ?_
  refine v_iand O dJ6_bitCount_0f7a4_14 ?_
  refine v_iload_n O dJ6_bitCount_0f7a4_15 rfl 0 rfl ?_
  refine v_iconst O dJ6_bitCount_0f7a4_16 kc_2 ?_
  refine v_iushr O dJ6_bitCount_0f7a4_17 ?_
  refine v_ldcw O dJ6_bitCount_0f7a4_18 ki_J6_266 ?_
  refine v_iand O dJ6_bitCount_0f7a4_21 ?_
  refine v_iadd O dJ6_bitCount_0f7a4_22 ?_
  refine v_topi (fun w3 hw4 => ?_)
  refine v_istore_n (lv' := [(0, .int w3)]) O dJ6_bitCount_0f7a4_23 rfl (by decide) rfl ?_
  refine v_iload_n O dJ6_bitCount_0f7a4_24 rfl 0 rfl ?_
  refine v_iload_n O dJ6_bitCount_0f7a4_25 rfl 0 rfl ?_
  refine v_iconst O dJ6_bitCount_0f7a4_26 kc_4 ?_
  refine v_iushr O dJ6_bitCount_0f7a4_27 ?_
  refine v_iadd O dJ6_bitCount_0f7a4_28 ?_
  refine v_ldcw O dJ6_bitCount_0f7a4_29 ki_J6_267 ?_
  refine v_iand O dJ6_bitCount_0f7a4_32 ?_
  refine v_topi (fun w5 hw6 => ?_)
  refine v_istore_n (lv' := [(0, .int w5)]) O dJ6_bitCount_0f7a4_33 rfl (by decide) rfl ?_
  refine v_iload_n O dJ6_bitCount_0f7a4_34 rfl 0 rfl ?_
  refine v_iload_n O dJ6_bitCount_0f7a4_35 rfl 0 rfl ?_
  refine v_bipush O dJ6_bitCount_0f7a4_36 kb_8 ?_
  refine v_iushr O dJ6_bitCount_0f7a4_38 ?_
  refine v_iadd O dJ6_bitCount_0f7a4_39 ?_
  refine v_topi (fun w7 hw8 => ?_)
  refine v_istore_n (lv' := [(0, .int w7)]) O dJ6_bitCount_0f7a4_40 rfl (by decide) rfl ?_
  refine v_iload_n O dJ6_bitCount_0f7a4_41 rfl 0 rfl ?_
  refine v_iload_n O dJ6_bitCount_0f7a4_42 rfl 0 rfl ?_
  refine v_bipush O dJ6_bitCount_0f7a4_43 kb_16 ?_
  refine v_iushr O dJ6_bitCount_0f7a4_45 ?_
  refine v_iadd O dJ6_bitCount_0f7a4_46 ?_
  refine v_topi (fun w9 hw10 => ?_)
  refine v_istore_n (lv' := [(0, .int w9)]) O dJ6_bitCount_0f7a4_47 rfl (by decide) rfl ?_
  refine v_iload_n O dJ6_bitCount_0f7a4_48 rfl 0 rfl ?_
  refine v_bipush O dJ6_bitCount_0f7a4_49 kb_63 ?_
  refine v_iand O dJ6_bitCount_0f7a4_51 ?_
  exact v_iret O r dJ6_bitCount_0f7a4_52 ⟨_, rfl, (((((h w1 hw2) w3 hw4) w5 hw6) w7 hw8) w9 hw10)⟩
set_option maxRecDepth 100000 in
theorem mJ6_bitCount_0f7a4 {Γ : Cxt} {p0 : Int32} {X : XT} {Y : YT} {Q : Int32 → XT → YT → Prop} (h : PJ6_bitCount_0f7a4 p0 X Y Q) : MT Γ yJ6_bitCount_0f7a4 (.code yJ6_bitCount_0f7a4 cJ6_bitCount_0f7a4 1 (some .int) :: wl) { frames := 0, cells := 0, slots := 0, locals := 0 } [.int p0] X Y (qI Q) :=
  mt_of (by decide) (Nat.le_of_ble_eq_true rfl) (fun Γ _ O r => kJ6_bitCount_0f7a4_s O r  (h ))
theorem dX1_pairsApart_0 : decode cX1_pairsApart 0 = .ok (.iconst 0, 1) := by decide +kernel
theorem dX1_pairsApart_1 : decode cX1_pairsApart 1 = .ok (.istore_n 1, 1) := by decide +kernel
theorem dX1_pairsApart_2 : decode cX1_pairsApart 2 = .ok (.iconst 0, 1) := by decide +kernel
theorem dX1_pairsApart_3 : decode cX1_pairsApart 3 = .ok (.istore_n 2, 1) := by decide +kernel
theorem dX1_pairsApart_4 : decode cX1_pairsApart 4 = .ok (.iload_n 2, 1) := by decide +kernel
theorem dX1_pairsApart_5 : decode cX1_pairsApart 5 = .ok (.aload_n 0, 1) := by decide +kernel
theorem dX1_pairsApart_6 : decode cX1_pairsApart 6 = .ok (.getfield 39, 3) := by decide +kernel
theorem dX1_pairsApart_9 : decode cX1_pairsApart 9 = .ok (.if_icmp .ge 21, 3) := by decide +kernel
theorem dX1_pairsApart_12 : decode cX1_pairsApart 12 = .ok (.iload_n 1, 1) := by decide +kernel
theorem dX1_pairsApart_13 : decode cX1_pairsApart 13 = .ok (.aload_n 0, 1) := by decide +kernel
theorem dX1_pairsApart_14 : decode cX1_pairsApart 14 = .ok (.getfield 36, 3) := by decide +kernel
theorem dX1_pairsApart_17 : decode cX1_pairsApart 17 = .ok (.iload_n 2, 1) := by decide +kernel
theorem dX1_pairsApart_18 : decode cX1_pairsApart 18 = .ok (.iaload, 1) := by decide +kernel
theorem dX1_pairsApart_19 : decode cX1_pairsApart 19 = .ok (.invokestatic 79, 3) := by decide +kernel
theorem dX1_pairsApart_22 : decode cX1_pairsApart 22 = .ok (.iadd, 1) := by decide +kernel
theorem dX1_pairsApart_23 : decode cX1_pairsApart 23 = .ok (.istore_n 1, 1) := by decide +kernel
theorem dX1_pairsApart_24 : decode cX1_pairsApart 24 = .ok (.iinc 2 1, 3) := by decide +kernel
theorem dX1_pairsApart_27 : decode cX1_pairsApart 27 = .ok (.goto (-23), 3) := by decide +kernel
theorem dX1_pairsApart_30 : decode cX1_pairsApart 30 = .ok (.iload_n 1, 1) := by decide +kernel
theorem dX1_pairsApart_31 : decode cX1_pairsApart 31 = .ok (.iconst 2, 1) := by decide +kernel
theorem dX1_pairsApart_32 : decode cX1_pairsApart 32 = .ok (.idiv, 1) := by decide +kernel
theorem dX1_pairsApart_33 : decode cX1_pairsApart 33 = .ok (.ireturn, 1) := by decide +kernel
def BX1_pairsApart_4 (I4 : Int32 → Int32 → XT → YT → Prop) (Q : Int32 → XT → YT → Prop) (a1 : Int32) (a2 : Int32) (X : XT) (Y : YT) : Prop :=
  (((X 3 9) ≤ a2 → Q (a1 / 2) X Y) ∧ (¬ (X 3 9) ≤ a2 → vp_in a2 10 ∧ PJ6_bitCount_0f7a4 (X 12 a2.toNatClampNeg) X Y (fun r2 X3 Y4 => ∀ w6 : Int32, w6 = (a1 + r2) → ∀ w8 : Int32, w8 = a2 + 1 → I4 w6 w8 X3 Y4)))
def BX1_pairsApart_s (I4 : Int32 → Int32 → XT → YT → Prop) (Q : Int32 → XT → YT → Prop) (X : XT) (Y : YT) : Prop :=
  I4 0 0 X Y
def PX1_pairsApart (X : XT) (Y : YT) (Q : Int32 → XT → YT → Prop) : Prop := ∀ (I4 : Int32 → Int32 → XT → YT → Prop), (∀ (a1 : Int32) (a2 : Int32) (X : XT) (Y : YT), BX1_pairsApart_4 I4 Q a1 a2 X Y → I4 a1 a2 X Y) → BX1_pairsApart_s I4 Q X Y
set_option maxHeartbeats 4000000 in
set_option maxRecDepth 100000 in
theorem kX1_pairsApart_4 {Γ : Cxt} {Q : Int32 → XT → YT → Prop} (O : Ok Γ RX1 cX1_pairsApart 3 { frames := 1, cells := 0, slots := 0, locals := 20 }) (r : Ret Γ (some .int) (qI Q)) {I4 : Int32 → Int32 → XT → YT → Prop} (e4 : ∀ (a1 : Int32) (a2 : Int32) (X : XT) (Y : YT), I4 a1 a2 X Y → V Γ 4 [(0, .ref 3), (1, .int a1), (2, .int a2)] [] X Y) {a1 : Int32} {a2 : Int32} {X : XT} {Y : YT} (h : BX1_pairsApart_4 I4 Q a1 a2 X Y) : V Γ 4 [(0, .ref 3), (1, .int a1), (2, .int a2)] [] X Y := by
  refine v_iload_n O dX1_pairsApart_4 rfl 2 rfl ?_
  refine v_aload_n O dX1_pairsApart_5 rfl 0 rfl ?_
  refine v_get O dX1_pairsApart_6 fo_X1_39 sh_3 rfl rfl ?_
  refine v_icmp_ge (tgt := 30) O dX1_pairsApart_9 (by decide) (fun g1 => ?_) (fun g1 => ?_)
  · refine v_iload_n O dX1_pairsApart_30 rfl 1 rfl ?_
    refine v_iconst O dX1_pairsApart_31 kc_2 ?_
    refine v_idiv O dX1_pairsApart_32 (by decide) ?_
    exact v_iret O r dX1_pairsApart_33 ⟨_, rfl, (h.1 g1)⟩
  · refine v_iload_n O dX1_pairsApart_12 rfl 1 rfl ?_
    refine v_aload_n O dX1_pairsApart_13 rfl 0 rfl ?_
    refine v_get O dX1_pairsApart_14 fo_X1_36 sh_3 rfl rfl ?_
    refine v_iload_n O dX1_pairsApart_17 rfl 2 rfl ?_
    refine v_iald O dX1_pairsApart_18 sh_12 (h.2 g1).1 ?_
    refine v_callS (rm' := { frames := 0, cells := 0, slots := 0, locals := 0 }) (As := [.int (X 12 a2.toNatClampNeg)]) (st := [.int a1]) O dX1_pairsApart_19 ci_J6_bitCount_0f7a4 ml_X1_79 ms_J6_bitCount_0f7a4 ⟨rfl, rfl, (by decide), (by decide)⟩ rfl (Nat.le_of_ble_eq_true rfl) rfl (mJ6_bitCount_0f7a4 (h.2 g1).2) (k_I (fun r2 X3 Y4 h5 => ?_))
    refine v_iadd O dX1_pairsApart_22 ?_
    refine v_topi (fun w6 hw7 => ?_)
    refine v_istore_n (lv' := [(1, .int w6), (0, .ref 3), (2, .int a2)]) O dX1_pairsApart_23 rfl (by decide) rfl ?_
    obtain ⟨w8, hw9⟩ : ∃ y : Int32, y = a2 + 1 := ⟨_, rfl⟩
    refine v_iinc (v := w8) (j := 2) O dX1_pairsApart_24 rfl (by rw [hw9]; exact congrArg _ kc_1) (by decide) (lv' := [(2, .int w8), (1, .int w6), (0, .ref 3)]) rfl ?_
    refine v_goto O dX1_pairsApart_27 (tgt := 4) (by decide) ?_
    exact v_loc [2, 1, 0] rfl (e4 w6 w8 X3 Y4 ((h5 w6 hw7) w8 hw9))
set_option maxHeartbeats 4000000 in
set_option maxRecDepth 100000 in
theorem kX1_pairsApart_s {Γ : Cxt} {Q : Int32 → XT → YT → Prop} (O : Ok Γ RX1 cX1_pairsApart 3 { frames := 1, cells := 0, slots := 0, locals := 20 }) (r : Ret Γ (some .int) (qI Q)) {I4 : Int32 → Int32 → XT → YT → Prop} (e4 : ∀ (a1 : Int32) (a2 : Int32) (X : XT) (Y : YT), I4 a1 a2 X Y → V Γ 4 [(0, .ref 3), (1, .int a1), (2, .int a2)] [] X Y) {X : XT} {Y : YT} (h : BX1_pairsApart_s I4 Q X Y) : V Γ 0 [(0, .ref 3)] [] X Y := by
  refine v_iconst O dX1_pairsApart_0 kc_0 ?_
  refine v_istore_n (lv' := [(1, .int 0), (0, .ref 3)]) O dX1_pairsApart_1 rfl (by decide) rfl ?_
  refine v_iconst O dX1_pairsApart_2 kc_0 ?_
  refine v_istore_n (lv' := [(2, .int 0), (1, .int 0), (0, .ref 3)]) O dX1_pairsApart_3 rfl (by decide) rfl ?_
  exact v_loc [2, 1, 0] rfl (e4 0 0 X Y h)
set_option maxRecDepth 100000 in
theorem mX1_pairsApart {Γ : Cxt} {X : XT} {Y : YT} {Q : Int32 → XT → YT → Prop} (h : PX1_pairsApart X Y Q) : MT Γ yX1_pairsApart (.code yX1_pairsApart cX1_pairsApart 3 (some .int) :: wl) { frames := 1, cells := 0, slots := 0, locals := 20 } [.ref 3] X Y (qI Q) :=
  mt_of (by decide) (Nat.le_of_ble_eq_true rfl) (fun Γ _ O r => kX1_pairsApart_s O r (fun _ _ _ _ g => g) (h (fun a1 a2 X Y => V Γ 4 [(0, .ref 3), (1, .int a1), (2, .int a2)] [] X Y) (fun _ _ _ _ g => kX1_pairsApart_4 O r (fun _ _ _ _ g => g) g)))
theorem dX2_skipBlanks_0 : decode cX2_skipBlanks 0 = .ok (.aload_n 0, 1) := by decide +kernel
theorem dX2_skipBlanks_1 : decode cX2_skipBlanks 1 = .ok (.getfield 29, 3) := by decide +kernel
theorem dX2_skipBlanks_4 : decode cX2_skipBlanks 4 = .ok (.aload_n 0, 1) := by decide +kernel
theorem dX2_skipBlanks_5 : decode cX2_skipBlanks 5 = .ok (.getfield 21, 3) := by decide +kernel
theorem dX2_skipBlanks_8 : decode cX2_skipBlanks 8 = .ok (.getfield 75, 3) := by decide +kernel
theorem dX2_skipBlanks_11 : decode cX2_skipBlanks 11 = .ok (.if_icmp .ge 32, 3) := by decide +kernel
theorem dX2_skipBlanks_14 : decode cX2_skipBlanks 14 = .ok (.aload_n 0, 1) := by decide +kernel
theorem dX2_skipBlanks_15 : decode cX2_skipBlanks 15 = .ok (.getfield 21, 3) := by decide +kernel
theorem dX2_skipBlanks_18 : decode cX2_skipBlanks 18 = .ok (.aload_n 0, 1) := by decide +kernel
theorem dX2_skipBlanks_19 : decode cX2_skipBlanks 19 = .ok (.getfield 29, 3) := by decide +kernel
theorem dX2_skipBlanks_22 : decode cX2_skipBlanks 22 = .ok (.invokevirtual 78, 3) := by decide +kernel
theorem dX2_skipBlanks_25 : decode cX2_skipBlanks 25 = .ok (.bipush 32, 2) := by decide +kernel
theorem dX2_skipBlanks_27 : decode cX2_skipBlanks 27 = .ok (.if_icmp .ne 16, 3) := by decide +kernel
theorem dX2_skipBlanks_30 : decode cX2_skipBlanks 30 = .ok (.aload_n 0, 1) := by decide +kernel
theorem dX2_skipBlanks_31 : decode cX2_skipBlanks 31 = .ok (.dup, 1) := by decide +kernel
theorem dX2_skipBlanks_32 : decode cX2_skipBlanks 32 = .ok (.getfield 29, 3) := by decide +kernel
theorem dX2_skipBlanks_35 : decode cX2_skipBlanks 35 = .ok (.iconst 1, 1) := by decide +kernel
theorem dX2_skipBlanks_36 : decode cX2_skipBlanks 36 = .ok (.iadd, 1) := by decide +kernel
theorem dX2_skipBlanks_37 : decode cX2_skipBlanks 37 = .ok (.putfield 29, 3) := by decide +kernel
theorem dX2_skipBlanks_40 : decode cX2_skipBlanks 40 = .ok (.goto (-40), 3) := by decide +kernel
theorem dX2_skipBlanks_43 : decode cX2_skipBlanks 43 = .ok (.return_, 1) := by decide +kernel
def BX2_skipBlanks_0 (I0 : XT → YT → Prop) (Q : XT → YT → Prop) (X : XT) (Y : YT) : Prop :=
  (((X 1 1) ≤ (X 24 5) → Q X Y) ∧ (¬ (X 1 1) ≤ (X 24 5) → PX8_at (X 24 5) X Y (fun r2 X3 Y4 => ((¬ r2 = 32 → Q X3 Y4) ∧ (r2 = 32 → I0 (sX X3 24 5 ((X3 24 5) + 1)) Y4)))))
def BX2_skipBlanks_s (I0 : XT → YT → Prop) (Q : XT → YT → Prop) (X : XT) (Y : YT) : Prop :=
  (((X 1 1) ≤ (X 24 5) → Q X Y) ∧ (¬ (X 1 1) ≤ (X 24 5) → PX8_at (X 24 5) X Y (fun r2 X3 Y4 => ((¬ r2 = 32 → Q X3 Y4) ∧ (r2 = 32 → I0 (sX X3 24 5 ((X3 24 5) + 1)) Y4)))))
def PX2_skipBlanks (X : XT) (Y : YT) (Q : XT → YT → Prop) : Prop := ∀ (I0 : XT → YT → Prop), (∀ (X : XT) (Y : YT), BX2_skipBlanks_0 I0 Q X Y → I0 X Y) → BX2_skipBlanks_s I0 Q X Y
set_option maxHeartbeats 4000000 in
set_option maxRecDepth 100000 in
theorem kX2_skipBlanks_0 {Γ : Cxt} {Q : XT → YT → Prop} (O : Ok Γ RX2 cX2_skipBlanks 1 { frames := 1, cells := 0, slots := 0, locals := 21 }) (r : Ret Γ none (qV Q)) {I0 : XT → YT → Prop} (e0 : ∀ (X : XT) (Y : YT), I0 X Y → V Γ 0 [(0, .ref 24)] [] X Y) {X : XT} {Y : YT} (h : BX2_skipBlanks_0 I0 Q X Y) : V Γ 0 [(0, .ref 24)] [] X Y := by
  refine v_aload_n O dX2_skipBlanks_0 rfl 0 rfl ?_
  refine v_get O dX2_skipBlanks_1 fo_X2_29 sh_24 rfl rfl ?_
  refine v_aload_n O dX2_skipBlanks_4 rfl 0 rfl ?_
  refine v_get O dX2_skipBlanks_5 fo_X2_21 sh_24 rfl rfl ?_
  refine v_get O dX2_skipBlanks_8 fo_X2_75 sh_1 rfl rfl ?_
  refine v_icmp_ge (tgt := 43) O dX2_skipBlanks_11 (by decide) (fun g1 => ?_) (fun g1 => ?_)
  · exact v_vret O r dX2_skipBlanks_43 ⟨rfl, (h.1 g1)⟩
  · refine v_aload_n O dX2_skipBlanks_14 rfl 0 rfl ?_
    refine v_get O dX2_skipBlanks_15 fo_X2_21 sh_24 rfl rfl ?_
    refine v_aload_n O dX2_skipBlanks_18 rfl 0 rfl ?_
    refine v_get O dX2_skipBlanks_19 fo_X2_29 sh_24 rfl rfl ?_
    refine v_callV (rm' := { frames := 0, cells := 0, slots := 0, locals := 0 }) (As := [.int (X 24 5)]) (st := []) O dX2_skipBlanks_22 ci_X8_at ml_X2_78 mi_X8_at sh_1 rfl ⟨rfl, rfl, (by decide), (by decide)⟩ rfl (Nat.le_of_ble_eq_true rfl) rfl (mX8_at (h.2 g1)) (k_I (fun r2 X3 Y4 h5 => ?_))
    refine v_bipush O dX2_skipBlanks_25 kb_32 ?_
    refine v_icmp_ne (tgt := 43) O dX2_skipBlanks_27 (by decide) (fun g6 => ?_) (fun g6 => ?_)
    · exact v_vret O r dX2_skipBlanks_43 ⟨rfl, (h5.1 g6)⟩
    · refine v_aload_n O dX2_skipBlanks_30 rfl 0 rfl ?_
      refine v_dup O dX2_skipBlanks_31 rfl ?_
      refine v_get O dX2_skipBlanks_32 fo_X2_29 sh_24 rfl rfl ?_
      refine v_iconst O dX2_skipBlanks_35 kc_1 ?_
      refine v_iadd O dX2_skipBlanks_36 ?_
      refine v_putI O dX2_skipBlanks_37 fo_X2_29 fp_2_5 sh_24 rfl rfl rfl ?_
      refine v_goto O dX2_skipBlanks_40 (tgt := 0) (by decide) ?_
      exact v_loc [0] rfl (e0 (sX X3 24 5 ((X3 24 5) + 1)) Y4 (h5.2 g6))
set_option maxHeartbeats 4000000 in
set_option maxRecDepth 100000 in
theorem kX2_skipBlanks_s {Γ : Cxt} {Q : XT → YT → Prop} (O : Ok Γ RX2 cX2_skipBlanks 1 { frames := 1, cells := 0, slots := 0, locals := 21 }) (r : Ret Γ none (qV Q)) {I0 : XT → YT → Prop} (e0 : ∀ (X : XT) (Y : YT), I0 X Y → V Γ 0 [(0, .ref 24)] [] X Y) {X : XT} {Y : YT} (h : BX2_skipBlanks_s I0 Q X Y) : V Γ 0 [(0, .ref 24)] [] X Y := by
  refine v_aload_n O dX2_skipBlanks_0 rfl 0 rfl ?_
  refine v_get O dX2_skipBlanks_1 fo_X2_29 sh_24 rfl rfl ?_
  refine v_aload_n O dX2_skipBlanks_4 rfl 0 rfl ?_
  refine v_get O dX2_skipBlanks_5 fo_X2_21 sh_24 rfl rfl ?_
  refine v_get O dX2_skipBlanks_8 fo_X2_75 sh_1 rfl rfl ?_
  refine v_icmp_ge (tgt := 43) O dX2_skipBlanks_11 (by decide) (fun g1 => ?_) (fun g1 => ?_)
  · exact v_vret O r dX2_skipBlanks_43 ⟨rfl, (h.1 g1)⟩
  · refine v_aload_n O dX2_skipBlanks_14 rfl 0 rfl ?_
    refine v_get O dX2_skipBlanks_15 fo_X2_21 sh_24 rfl rfl ?_
    refine v_aload_n O dX2_skipBlanks_18 rfl 0 rfl ?_
    refine v_get O dX2_skipBlanks_19 fo_X2_29 sh_24 rfl rfl ?_
    refine v_callV (rm' := { frames := 0, cells := 0, slots := 0, locals := 0 }) (As := [.int (X 24 5)]) (st := []) O dX2_skipBlanks_22 ci_X8_at ml_X2_78 mi_X8_at sh_1 rfl ⟨rfl, rfl, (by decide), (by decide)⟩ rfl (Nat.le_of_ble_eq_true rfl) rfl (mX8_at (h.2 g1)) (k_I (fun r2 X3 Y4 h5 => ?_))
    refine v_bipush O dX2_skipBlanks_25 kb_32 ?_
    refine v_icmp_ne (tgt := 43) O dX2_skipBlanks_27 (by decide) (fun g6 => ?_) (fun g6 => ?_)
    · exact v_vret O r dX2_skipBlanks_43 ⟨rfl, (h5.1 g6)⟩
    · refine v_aload_n O dX2_skipBlanks_30 rfl 0 rfl ?_
      refine v_dup O dX2_skipBlanks_31 rfl ?_
      refine v_get O dX2_skipBlanks_32 fo_X2_29 sh_24 rfl rfl ?_
      refine v_iconst O dX2_skipBlanks_35 kc_1 ?_
      refine v_iadd O dX2_skipBlanks_36 ?_
      refine v_putI O dX2_skipBlanks_37 fo_X2_29 fp_2_5 sh_24 rfl rfl rfl ?_
      refine v_goto O dX2_skipBlanks_40 (tgt := 0) (by decide) ?_
      exact v_loc [0] rfl (e0 (sX X3 24 5 ((X3 24 5) + 1)) Y4 (h5.2 g6))
set_option maxRecDepth 100000 in
theorem mX2_skipBlanks {Γ : Cxt} {X : XT} {Y : YT} {Q : XT → YT → Prop} (h : PX2_skipBlanks X Y Q) : MT Γ yX2_skipBlanks (.code yX2_skipBlanks cX2_skipBlanks 1 none :: wl) { frames := 1, cells := 0, slots := 0, locals := 21 } [.ref 24] X Y (qV Q) :=
  mt_of (by decide) (Nat.le_of_ble_eq_true rfl) (fun Γ _ O r => kX2_skipBlanks_s O r (fun  _ _ g => g) (h (fun X Y => V Γ 0 [(0, .ref 24)] [] X Y) (fun  _ _ g => kX2_skipBlanks_0 O r (fun  _ _ g => g) g)))
theorem dX2_fail_0 : decode cX2_fail 0 = .ok (.aload_n 0, 1) := by decide +kernel
theorem dX2_fail_1 : decode cX2_fail 1 = .ok (.getfield 33, 3) := by decide +kernel
theorem dX2_fail_4 : decode cX2_fail 4 = .ok (.ifCond .ne 13, 3) := by decide +kernel
theorem dX2_fail_7 : decode cX2_fail 7 = .ok (.aload_n 0, 1) := by decide +kernel
theorem dX2_fail_8 : decode cX2_fail 8 = .ok (.iload_n 1, 1) := by decide +kernel
theorem dX2_fail_9 : decode cX2_fail 9 = .ok (.putfield 33, 3) := by decide +kernel
theorem dX2_fail_12 : decode cX2_fail 12 = .ok (.aload_n 0, 1) := by decide +kernel
theorem dX2_fail_13 : decode cX2_fail 13 = .ok (.iload_n 2, 1) := by decide +kernel
theorem dX2_fail_14 : decode cX2_fail 14 = .ok (.putfield 36, 3) := by decide +kernel
theorem dX2_fail_17 : decode cX2_fail 17 = .ok (.return_, 1) := by decide +kernel
def BX2_fail_s (Q : XT → YT → Prop) (p0 : Int32) (p1 : Int32) (X : XT) (Y : YT) : Prop :=
  ((¬ (X 24 6) = 0 → Q X Y) ∧ ((X 24 6) = 0 → Q (sX (sX X 24 6 p0) 24 7 p1) Y))
def PX2_fail (p0 : Int32) (p1 : Int32) (X : XT) (Y : YT) (Q : XT → YT → Prop) : Prop :=  BX2_fail_s Q p0 p1 X Y
set_option maxHeartbeats 4000000 in
set_option maxRecDepth 100000 in
theorem kX2_fail_s {Γ : Cxt} {Q : XT → YT → Prop} (O : Ok Γ RX2 cX2_fail 3 { frames := 0, cells := 0, slots := 0, locals := 0 }) (r : Ret Γ none (qV Q)) {p0 : Int32} {p1 : Int32} {X : XT} {Y : YT} (h : BX2_fail_s Q p0 p1 X Y) : V Γ 0 [(0, .ref 24), (1, .int p0), (2, .int p1)] [] X Y := by
  refine v_aload_n O dX2_fail_0 rfl 0 rfl ?_
  refine v_get O dX2_fail_1 fo_X2_33 sh_24 rfl rfl ?_
  refine v_if_ne (tgt := 17) O dX2_fail_4 (by decide) (fun g1 => ?_) (fun g1 => ?_)
  · exact v_vret O r dX2_fail_17 ⟨rfl, (h.1 g1)⟩
  · refine v_aload_n O dX2_fail_7 rfl 0 rfl ?_
    refine v_iload_n O dX2_fail_8 rfl 1 rfl ?_
    refine v_putI O dX2_fail_9 fo_X2_33 fp_2_6 sh_24 rfl rfl rfl ?_
    refine v_aload_n O dX2_fail_12 rfl 0 rfl ?_
    refine v_iload_n O dX2_fail_13 rfl 2 rfl ?_
    refine v_putI O dX2_fail_14 fo_X2_36 fp_2_7 sh_24 rfl rfl rfl ?_
    exact v_vret O r dX2_fail_17 ⟨rfl, (h.2 g1)⟩
set_option maxRecDepth 100000 in
theorem mX2_fail {Γ : Cxt} {p0 : Int32} {p1 : Int32} {X : XT} {Y : YT} {Q : XT → YT → Prop} (h : PX2_fail p0 p1 X Y Q) : MT Γ yX2_fail (.code yX2_fail cX2_fail 3 none :: wl) { frames := 0, cells := 0, slots := 0, locals := 0 } [.ref 24, .int p0, .int p1] X Y (qV Q) :=
  mt_of (by decide) (Nat.le_of_ble_eq_true rfl) (fun Γ _ O r => kX2_fail_s O r  (h ))
theorem dX2_takeSign_0 : decode cX2_takeSign 0 = .ok (.aload_n 0, 1) := by decide +kernel
theorem dX2_takeSign_1 : decode cX2_takeSign 1 = .ok (.invokevirtual 81, 3) := by decide +kernel
theorem dX2_takeSign_4 : decode cX2_takeSign 4 = .ok (.aload_n 0, 1) := by decide +kernel
theorem dX2_takeSign_5 : decode cX2_takeSign 5 = .ok (.getfield 21, 3) := by decide +kernel
theorem dX2_takeSign_8 : decode cX2_takeSign 8 = .ok (.aload_n 0, 1) := by decide +kernel
theorem dX2_takeSign_9 : decode cX2_takeSign 9 = .ok (.getfield 29, 3) := by decide +kernel
theorem dX2_takeSign_12 : decode cX2_takeSign 12 = .ok (.invokevirtual 78, 3) := by decide +kernel
theorem dX2_takeSign_15 : decode cX2_takeSign 15 = .ok (.iload_n 1, 1) := by decide +kernel
theorem dX2_takeSign_16 : decode cX2_takeSign 16 = .ok (.if_icmp .eq 15, 3) := by decide +kernel
theorem dX2_takeSign_19 : decode cX2_takeSign 19 = .ok (.aload_n 0, 1) := by decide +kernel
theorem dX2_takeSign_20 : decode cX2_takeSign 20 = .ok (.iconst 1, 1) := by decide +kernel
theorem dX2_takeSign_21 : decode cX2_takeSign 21 = .ok (.aload_n 0, 1) := by decide +kernel
theorem dX2_takeSign_22 : decode cX2_takeSign 22 = .ok (.getfield 29, 3) := by decide +kernel
theorem dX2_takeSign_25 : decode cX2_takeSign 25 = .ok (.invokevirtual 84, 3) := by decide +kernel
theorem dX2_takeSign_28 : decode cX2_takeSign 28 = .ok (.goto 13, 3) := by decide +kernel
theorem dX2_takeSign_31 : decode cX2_takeSign 31 = .ok (.aload_n 0, 1) := by decide +kernel
theorem dX2_takeSign_32 : decode cX2_takeSign 32 = .ok (.dup, 1) := by decide +kernel
theorem dX2_takeSign_33 : decode cX2_takeSign 33 = .ok (.getfield 29, 3) := by decide +kernel
theorem dX2_takeSign_36 : decode cX2_takeSign 36 = .ok (.iconst 1, 1) := by decide +kernel
theorem dX2_takeSign_37 : decode cX2_takeSign 37 = .ok (.iadd, 1) := by decide +kernel
theorem dX2_takeSign_38 : decode cX2_takeSign 38 = .ok (.putfield 29, 3) := by decide +kernel
theorem dX2_takeSign_41 : decode cX2_takeSign 41 = .ok (.return_, 1) := by decide +kernel
def BX2_takeSign_s (Q : XT → YT → Prop) (p0 : Int32) (X : XT) (Y : YT) : Prop :=
  PX2_skipBlanks X Y (fun X2 Y3 => PX8_at (X2 24 5) X2 Y3 (fun r5 X6 Y7 => ((r5 = p0 → Q (sX X6 24 5 ((X6 24 5) + 1)) Y7) ∧ (¬ r5 = p0 → PX2_fail 1 (X6 24 5) X6 Y7 (fun X11 Y12 => Q X11 Y12)))))
def PX2_takeSign (p0 : Int32) (X : XT) (Y : YT) (Q : XT → YT → Prop) : Prop :=  BX2_takeSign_s Q p0 X Y
set_option maxHeartbeats 4000000 in
set_option maxRecDepth 100000 in
theorem kX2_takeSign_s {Γ : Cxt} {Q : XT → YT → Prop} (O : Ok Γ RX2 cX2_takeSign 2 { frames := 2, cells := 0, slots := 0, locals := 41 }) (r : Ret Γ none (qV Q)) {p0 : Int32} {X : XT} {Y : YT} (h : BX2_takeSign_s Q p0 X Y) : V Γ 0 [(0, .ref 24), (1, .int p0)] [] X Y := by
  refine v_aload_n O dX2_takeSign_0 rfl 0 rfl ?_
  refine v_callV (rm' := { frames := 1, cells := 0, slots := 0, locals := 21 }) (As := []) (st := []) O dX2_takeSign_1 ci_X2_skipBlanks ml_X2_81 mi_X2_skipBlanks sh_24 rfl ⟨rfl, rfl, (by decide), (by decide)⟩ rfl (Nat.le_of_ble_eq_true rfl) rfl (mX2_skipBlanks h) (k_V (fun X2 Y3 h4 => ?_))
  refine v_aload_n O dX2_takeSign_4 rfl 0 rfl ?_
  refine v_get O dX2_takeSign_5 fo_X2_21 sh_24 rfl rfl ?_
  refine v_aload_n O dX2_takeSign_8 rfl 0 rfl ?_
  refine v_get O dX2_takeSign_9 fo_X2_29 sh_24 rfl rfl ?_
  refine v_callV (rm' := { frames := 0, cells := 0, slots := 0, locals := 0 }) (As := [.int (X2 24 5)]) (st := []) O dX2_takeSign_12 ci_X8_at ml_X2_78 mi_X8_at sh_1 rfl ⟨rfl, rfl, (by decide), (by decide)⟩ rfl (Nat.le_of_ble_eq_true rfl) rfl (mX8_at h4) (k_I (fun r5 X6 Y7 h8 => ?_))
  refine v_iload_n O dX2_takeSign_15 rfl 1 rfl ?_
  refine v_icmp_eq (tgt := 31) O dX2_takeSign_16 (by decide) (fun g9 => ?_) (fun g9 => ?_)
  · refine v_aload_n O dX2_takeSign_31 rfl 0 rfl ?_
    refine v_dup O dX2_takeSign_32 rfl ?_
    refine v_get O dX2_takeSign_33 fo_X2_29 sh_24 rfl rfl ?_
    refine v_iconst O dX2_takeSign_36 kc_1 ?_
    refine v_iadd O dX2_takeSign_37 ?_
    refine v_putI O dX2_takeSign_38 fo_X2_29 fp_2_5 sh_24 rfl rfl rfl ?_
    exact v_vret O r dX2_takeSign_41 ⟨rfl, (h8.1 g9)⟩
  · refine v_aload_n O dX2_takeSign_19 rfl 0 rfl ?_
    refine v_iconst O dX2_takeSign_20 kc_1 ?_
    refine v_aload_n O dX2_takeSign_21 rfl 0 rfl ?_
    refine v_get O dX2_takeSign_22 fo_X2_29 sh_24 rfl rfl ?_
    refine v_callV (rm' := { frames := 0, cells := 0, slots := 0, locals := 0 }) (As := [.int 1, .int (X6 24 5)]) (st := []) O dX2_takeSign_25 ci_X2_fail ml_X2_84 mi_X2_fail sh_24 rfl ⟨rfl, rfl, (by decide), (by decide)⟩ rfl (Nat.le_of_ble_eq_true rfl) rfl (mX2_fail (h8.2 g9)) (k_V (fun X11 Y12 h13 => ?_))
    refine v_goto O dX2_takeSign_28 (tgt := 41) (by decide) ?_
    exact v_vret O r dX2_takeSign_41 ⟨rfl, h13⟩
set_option maxRecDepth 100000 in
theorem mX2_takeSign {Γ : Cxt} {p0 : Int32} {X : XT} {Y : YT} {Q : XT → YT → Prop} (h : PX2_takeSign p0 X Y Q) : MT Γ yX2_takeSign (.code yX2_takeSign cX2_takeSign 2 none :: wl) { frames := 2, cells := 0, slots := 0, locals := 41 } [.ref 24, .int p0] X Y (qV Q) :=
  mt_of (by decide) (Nat.le_of_ble_eq_true rfl) (fun Γ _ O r => kX2_takeSign_s O r  (h ))
theorem dX2_takeComma_0 : decode cX2_takeComma 0 = .ok (.aload_n 0, 1) := by decide +kernel
theorem dX2_takeComma_1 : decode cX2_takeComma 1 = .ok (.invokevirtual 81, 3) := by decide +kernel
theorem dX2_takeComma_4 : decode cX2_takeComma 4 = .ok (.aload_n 0, 1) := by decide +kernel
theorem dX2_takeComma_5 : decode cX2_takeComma 5 = .ok (.getfield 29, 3) := by decide +kernel
theorem dX2_takeComma_8 : decode cX2_takeComma 8 = .ok (.aload_n 0, 1) := by decide +kernel
theorem dX2_takeComma_9 : decode cX2_takeComma 9 = .ok (.getfield 21, 3) := by decide +kernel
theorem dX2_takeComma_12 : decode cX2_takeComma 12 = .ok (.getfield 75, 3) := by decide +kernel
theorem dX2_takeComma_15 : decode cX2_takeComma 15 = .ok (.if_icmp .lt 5, 3) := by decide +kernel
theorem dX2_takeComma_18 : decode cX2_takeComma 18 = .ok (.iconst 0, 1) := by decide +kernel
theorem dX2_takeComma_19 : decode cX2_takeComma 19 = .ok (.ireturn, 1) := by decide +kernel
theorem dX2_takeComma_20 : decode cX2_takeComma 20 = .ok (.aload_n 0, 1) := by decide +kernel
theorem dX2_takeComma_21 : decode cX2_takeComma 21 = .ok (.bipush 44, 2) := by decide +kernel
theorem dX2_takeComma_23 : decode cX2_takeComma 23 = .ok (.invokevirtual 64, 3) := by decide +kernel
theorem dX2_takeComma_26 : decode cX2_takeComma 26 = .ok (.iconst 1, 1) := by decide +kernel
theorem dX2_takeComma_27 : decode cX2_takeComma 27 = .ok (.ireturn, 1) := by decide +kernel
def BX2_takeComma_s (Q : Int32 → XT → YT → Prop) (X : XT) (Y : YT) : Prop :=
  PX2_skipBlanks X Y (fun X2 Y3 => (((X2 24 5) < (X2 1 1) → PX2_takeSign 44 X2 Y3 (fun X7 Y8 => Q 1 X7 Y8)) ∧ (¬ (X2 24 5) < (X2 1 1) → Q 0 X2 Y3)))
def PX2_takeComma (X : XT) (Y : YT) (Q : Int32 → XT → YT → Prop) : Prop :=  BX2_takeComma_s Q X Y
set_option maxHeartbeats 4000000 in
set_option maxRecDepth 100000 in
theorem kX2_takeComma_s {Γ : Cxt} {Q : Int32 → XT → YT → Prop} (O : Ok Γ RX2 cX2_takeComma 1 { frames := 3, cells := 0, slots := 0, locals := 62 }) (r : Ret Γ (some .boolean) (qI Q)) {X : XT} {Y : YT} (h : BX2_takeComma_s Q X Y) : V Γ 0 [(0, .ref 24)] [] X Y := by
  refine v_aload_n O dX2_takeComma_0 rfl 0 rfl ?_
  refine v_callV (rm' := { frames := 1, cells := 0, slots := 0, locals := 21 }) (As := []) (st := []) O dX2_takeComma_1 ci_X2_skipBlanks ml_X2_81 mi_X2_skipBlanks sh_24 rfl ⟨rfl, rfl, (by decide), (by decide)⟩ rfl (Nat.le_of_ble_eq_true rfl) rfl (mX2_skipBlanks h) (k_V (fun X2 Y3 h4 => ?_))
  refine v_aload_n O dX2_takeComma_4 rfl 0 rfl ?_
  refine v_get O dX2_takeComma_5 fo_X2_29 sh_24 rfl rfl ?_
  refine v_aload_n O dX2_takeComma_8 rfl 0 rfl ?_
  refine v_get O dX2_takeComma_9 fo_X2_21 sh_24 rfl rfl ?_
  refine v_get O dX2_takeComma_12 fo_X2_75 sh_1 rfl rfl ?_
  refine v_icmp_lt (tgt := 20) O dX2_takeComma_15 (by decide) (fun g5 => ?_) (fun g5 => ?_)
  · refine v_aload_n O dX2_takeComma_20 rfl 0 rfl ?_
    refine v_bipush O dX2_takeComma_21 kb_44 ?_
    refine v_callV (rm' := { frames := 2, cells := 0, slots := 0, locals := 41 }) (As := [.int 44]) (st := []) O dX2_takeComma_23 ci_X2_takeSign ml_X2_64 mi_X2_takeSign sh_24 rfl ⟨rfl, rfl, (by decide), (by decide)⟩ rfl (Nat.le_of_ble_eq_true rfl) rfl (mX2_takeSign (h4.1 g5)) (k_V (fun X7 Y8 h9 => ?_))
    refine v_iconst O dX2_takeComma_26 kc_1 ?_
    exact v_zret O r dX2_takeComma_27 (by decide) ⟨_, rfl, h9⟩
  · refine v_iconst O dX2_takeComma_18 kc_0 ?_
    exact v_zret O r dX2_takeComma_19 (by decide) ⟨_, rfl, (h4.2 g5)⟩
set_option maxRecDepth 100000 in
theorem mX2_takeComma {Γ : Cxt} {X : XT} {Y : YT} {Q : Int32 → XT → YT → Prop} (h : PX2_takeComma X Y Q) : MT Γ yX2_takeComma (.code yX2_takeComma cX2_takeComma 1 (some .boolean) :: wl) { frames := 3, cells := 0, slots := 0, locals := 62 } [.ref 24] X Y (qI Q) :=
  mt_of (by decide) (Nat.le_of_ble_eq_true rfl) (fun Γ _ O r => kX2_takeComma_s O r  (h ))
theorem dX8_isFigure_0 : decode cX8_isFigure 0 = .ok (.aload_n 0, 1) := by decide +kernel
theorem dX8_isFigure_1 : decode cX8_isFigure 1 = .ok (.iload_n 1, 1) := by decide +kernel
theorem dX8_isFigure_2 : decode cX8_isFigure 2 = .ok (.invokevirtual 19, 3) := by decide +kernel
theorem dX8_isFigure_5 : decode cX8_isFigure 5 = .ok (.bipush 48, 2) := by decide +kernel
theorem dX8_isFigure_7 : decode cX8_isFigure 7 = .ok (.bipush 57, 2) := by decide +kernel
theorem dX8_isFigure_9 : decode cX8_isFigure 9 = .ok (.invokestatic 23, 3) := by decide +kernel
theorem dX8_isFigure_12 : decode cX8_isFigure 12 = .ok (.ireturn, 1) := by decide +kernel
def BX8_isFigure_s (Q : Int32 → XT → YT → Prop) (p0 : Int32) (X : XT) (Y : YT) : Prop :=
  PX8_at p0 X Y (fun r1 X2 Y3 => PX9_within r1 48 57 X2 Y3 (fun r5 X6 Y7 => narrow .boolean (.int r5) = .int r5 ∧ Q r5 X6 Y7))
def PX8_isFigure (p0 : Int32) (X : XT) (Y : YT) (Q : Int32 → XT → YT → Prop) : Prop :=  BX8_isFigure_s Q p0 X Y
set_option maxHeartbeats 4000000 in
set_option maxRecDepth 100000 in
theorem kX8_isFigure_s {Γ : Cxt} {Q : Int32 → XT → YT → Prop} (O : Ok Γ RX8 cX8_isFigure 2 { frames := 1, cells := 0, slots := 0, locals := 22 }) (r : Ret Γ (some .boolean) (qI Q)) {p0 : Int32} {X : XT} {Y : YT} (h : BX8_isFigure_s Q p0 X Y) : V Γ 0 [(0, .ref 1), (1, .int p0)] [] X Y := by
  refine v_aload_n O dX8_isFigure_0 rfl 0 rfl ?_
  refine v_iload_n O dX8_isFigure_1 rfl 1 rfl ?_
  refine v_callV (rm' := { frames := 0, cells := 0, slots := 0, locals := 0 }) (As := [.int p0]) (st := []) O dX8_isFigure_2 ci_X8_at ml_X8_19 mi_X8_at sh_1 rfl ⟨rfl, rfl, (by decide), (by decide)⟩ rfl (Nat.le_of_ble_eq_true rfl) rfl (mX8_at h) (k_I (fun r1 X2 Y3 h4 => ?_))
  refine v_bipush O dX8_isFigure_5 kb_48 ?_
  refine v_bipush O dX8_isFigure_7 kb_57 ?_
  refine v_callN (rm' := { frames := 0, cells := 0, slots := 0, locals := 0 }) (As := [.int r1, .int 48, .int 57]) (st := []) O dX8_isFigure_9 ci_X9_within ml_X8_23 ms_X9_within ⟨rfl, rfl, (by decide), (by decide)⟩ rfl (Nat.le_of_ble_eq_true rfl) rfl (mX9_within h4) (k_I (fun r5 X6 Y7 h8 => ?_))
  exact v_zret O r dX8_isFigure_12 h8.1 ⟨_, rfl, h8.2⟩
set_option maxRecDepth 100000 in
theorem mX8_isFigure {Γ : Cxt} {p0 : Int32} {X : XT} {Y : YT} {Q : Int32 → XT → YT → Prop} (h : PX8_isFigure p0 X Y Q) : MT Γ yX8_isFigure (.code yX8_isFigure cX8_isFigure 2 (some .boolean) :: wl) { frames := 1, cells := 0, slots := 0, locals := 22 } [.ref 1, .int p0] X Y (qI Q) :=
  mt_of (by decide) (Nat.le_of_ble_eq_true rfl) (fun Γ _ O r => kX8_isFigure_s O r  (h ))
