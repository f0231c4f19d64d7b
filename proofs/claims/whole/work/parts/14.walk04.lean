theorem dX5_go_0 : decode cX5_go 0 = .ok (.aload_n 0, 1) := by decide +kernel
theorem dX5_go_1 : decode cX5_go 1 = .ok (.getfield 12, 3) := by decide +kernel
theorem dX5_go_4 : decode cX5_go 4 = .ok (.invokevirtual 46, 3) := by decide +kernel
theorem dX5_go_7 : decode cX5_go 7 = .ok (.aload_n 0, 1) := by decide +kernel
theorem dX5_go_8 : decode cX5_go 8 = .ok (.iconst 0, 1) := by decide +kernel
theorem dX5_go_9 : decode cX5_go 9 = .ok (.putfield 49, 3) := by decide +kernel
theorem dX5_go_12 : decode cX5_go 12 = .ok (.aload_n 0, 1) := by decide +kernel
theorem dX5_go_13 : decode cX5_go 13 = .ok (.iconst 0, 1) := by decide +kernel
theorem dX5_go_14 : decode cX5_go 14 = .ok (.putfield 53, 3) := by decide +kernel
theorem dX5_go_17 : decode cX5_go 17 = .ok (.aload_n 0, 1) := by decide +kernel
theorem dX5_go_18 : decode cX5_go 18 = .ok (.iconst 0, 1) := by decide +kernel
theorem dX5_go_19 : decode cX5_go 19 = .ok (.putfield 56, 3) := by decide +kernel
theorem dX5_go_22 : decode cX5_go 22 = .ok (.aload_n 0, 1) := by decide +kernel
theorem dX5_go_23 : decode cX5_go 23 = .ok (.getfield 42, 3) := by decide +kernel
theorem dX5_go_26 : decode cX5_go 26 = .ok (.getfield 60, 3) := by decide +kernel
theorem dX5_go_29 : decode cX5_go 29 = .ok (.ifCond .ne 14, 3) := by decide +kernel
theorem dX5_go_32 : decode cX5_go 32 = .ok (.aload_n 0, 1) := by decide +kernel
theorem dX5_go_33 : decode cX5_go 33 = .ok (.getfield 12, 3) := by decide +kernel
theorem dX5_go_36 : decode cX5_go 36 = .ok (.iconst 0, 1) := by decide +kernel
theorem dX5_go_37 : decode cX5_go 37 = .ok (.lconst 1, 1) := by decide +kernel
theorem dX5_go_38 : decode cX5_go 38 = .ok (.iconst 0, 1) := by decide +kernel
theorem dX5_go_39 : decode cX5_go 39 = .ok (.invokevirtual 65, 3) := by decide +kernel
theorem dX5_go_42 : decode cX5_go 42 = .ok (.return_, 1) := by decide +kernel
theorem dX5_go_43 : decode cX5_go 43 = .ok (.aload_n 0, 1) := by decide +kernel
theorem dX5_go_44 : decode cX5_go 44 = .ok (.iconst 0, 1) := by decide +kernel
theorem dX5_go_45 : decode cX5_go 45 = .ok (.invokevirtual 69, 3) := by decide +kernel
theorem dX5_go_48 : decode cX5_go 48 = .ok (.iconst 0, 1) := by decide +kernel
theorem dX5_go_49 : decode cX5_go 49 = .ok (.istore_n 2, 1) := by decide +kernel
theorem dX5_go_50 : decode cX5_go 50 = .ok (.iconst 0, 1) := by decide +kernel
theorem dX5_go_51 : decode cX5_go 51 = .ok (.istore_n 3, 1) := by decide +kernel
theorem dX5_go_52 : decode cX5_go 52 = .ok (.iload_n 3, 1) := by decide +kernel
theorem dX5_go_53 : decode cX5_go 53 = .ok (.ldc 73, 2) := by decide +kernel
theorem dX5_go_55 : decode cX5_go 55 = .ok (.if_icmp .ge 37, 3) := by decide +kernel
theorem dX5_go_58 : decode cX5_go 58 = .ok (.iload_n 2, 1) := by decide +kernel
theorem dX5_go_59 : decode cX5_go 59 = .ok (.ifCond .lt 33, 3) := by decide +kernel
theorem dX5_go_62 : decode cX5_go 62 = .ok (.aload_n 0, 1) := by decide +kernel
theorem dX5_go_63 : decode cX5_go 63 = .ok (.getfield 56, 3) := by decide +kernel
theorem dX5_go_66 : decode cX5_go 66 = .ok (.ifCond .ne 26, 3) := by decide +kernel
theorem dX5_go_69 : decode cX5_go 69 = .ok (.aload_n 0, 1) := by decide +kernel
theorem dX5_go_70 : decode cX5_go 70 = .ok (.getfield 12, 3) := by decide +kernel
theorem dX5_go_73 : decode cX5_go 73 = .ok (.getfield 74, 3) := by decide +kernel
theorem dX5_go_76 : decode cX5_go 76 = .ok (.iload_n 1, 1) := by decide +kernel
theorem dX5_go_77 : decode cX5_go 77 = .ok (.if_icmp .gt 15, 3) := by decide +kernel
theorem dX5_go_80 : decode cX5_go 80 = .ok (.aload_n 0, 1) := by decide +kernel
theorem dX5_go_81 : decode cX5_go 81 = .ok (.iload_n 2, 1) := by decide +kernel
theorem dX5_go_82 : decode cX5_go 82 = .ok (.invokevirtual 77, 3) := by decide +kernel
theorem dX5_go_85 : decode cX5_go 85 = .ok (.istore_n 2, 1) := by decide +kernel
theorem dX5_go_86 : decode cX5_go 86 = .ok (.iinc 3 1, 3) := by decide +kernel
theorem dX5_go_89 : decode cX5_go 89 = .ok (.goto (-37), 3) := by decide +kernel
theorem dX5_go_92 : decode cX5_go 92 = .ok (.return_, 1) := by decide +kernel
def BX5_go_52 (I52 : Int32 → Int32 → Int32 → XT → YT → Prop) (Q : XT → YT → Prop) (a1 : Int32) (a2 : Int32) (a3 : Int32) (X : XT) (Y : YT) : Prop :=
  ((100000 ≤ a3 → Q X Y) ∧ (¬ 100000 ≤ a3 → ((a2 < 0 → Q X Y) ∧ (¬ a2 < 0 → ((¬ (X 39 11) = 0 → Q X Y) ∧ ((X 39 11) = 0 → ((a1 < (X 40 1) → Q X Y) ∧ (¬ a1 < (X 40 1) → PX5_tryOn a2 X Y (fun r5 X6 Y7 => ∀ w9 : Int32, w9 = a3 + 1 → I52 a1 r5 w9 X6 Y7)))))))))
def BX5_go_s (I52 : Int32 → Int32 → Int32 → XT → YT → Prop) (Q : XT → YT → Prop) (p0 : Int32) (X : XT) (Y : YT) : Prop :=
  PX7_clear X Y (fun X2 Y3 => ((¬ ((sX (sX (sX X2 39 9 0) 39 10 0) 39 11 0) 31 3) = 0 → PX5_enter 0 (sX (sX (sX X2 39 9 0) 39 10 0) 39 11 0) Y3 (fun X7 Y8 => I52 p0 0 0 X7 Y8)) ∧ (((sX (sX (sX X2 39 9 0) 39 10 0) 39 11 0) 31 3) = 0 → PX7_add 0 (1 : Int64) 0 (sX (sX (sX X2 39 9 0) 39 10 0) 39 11 0) Y3 (fun X11 Y12 => Q X11 Y12))))
def PX5_go (p0 : Int32) (X : XT) (Y : YT) (Q : XT → YT → Prop) : Prop := ∀ (I52 : Int32 → Int32 → Int32 → XT → YT → Prop), (∀ (a1 : Int32) (a2 : Int32) (a3 : Int32) (X : XT) (Y : YT), BX5_go_52 I52 Q a1 a2 a3 X Y → I52 a1 a2 a3 X Y) → BX5_go_s I52 Q p0 X Y
set_option maxHeartbeats 4000000 in
set_option maxRecDepth 100000 in
theorem kX5_go_52 {Γ : Cxt} {Q : XT → YT → Prop} (O : Ok Γ RX5 cX5_go 4 { frames := 3, cells := 0, slots := 0, locals := 70 }) (r : Ret Γ none (qV Q)) {I52 : Int32 → Int32 → Int32 → XT → YT → Prop} (e52 : ∀ (a1 : Int32) (a2 : Int32) (a3 : Int32) (X : XT) (Y : YT), I52 a1 a2 a3 X Y → V Γ 52 [(0, .ref 39), (1, .int a1), (2, .int a2), (3, .int a3)] [] X Y) {a1 : Int32} {a2 : Int32} {a3 : Int32} {X : XT} {Y : YT} (h : BX5_go_52 I52 Q a1 a2 a3 X Y) : V Γ 52 [(0, .ref 39), (1, .int a1), (2, .int a2), (3, .int a3)] [] X Y := by
  refine v_iload_n O dX5_go_52 rfl 3 rfl ?_
  refine v_ldc O dX5_go_53 ki_X5_73 ?_
  refine v_icmp_ge (tgt := 92) O dX5_go_55 (by decide) (fun g1 => ?_) (fun g1 => ?_)
  · exact v_vret O r dX5_go_92 ⟨rfl, (h.1 g1)⟩
  · refine v_iload_n O dX5_go_58 rfl 2 rfl ?_
    refine v_if_lt (tgt := 92) O dX5_go_59 (by decide) (fun g2 => ?_) (fun g2 => ?_)
    · exact v_vret O r dX5_go_92 ⟨rfl, ((h.2 g1).1 g2)⟩
    · refine v_aload_n O dX5_go_62 rfl 0 rfl ?_
      refine v_get O dX5_go_63 fo_X5_56 sh_39 rfl rfl ?_
      refine v_if_ne (tgt := 92) O dX5_go_66 (by decide) (fun g3 => ?_) (fun g3 => ?_)
      · exact v_vret O r dX5_go_92 ⟨rfl, (((h.2 g1).2 g2).1 g3)⟩
      · refine v_aload_n O dX5_go_69 rfl 0 rfl ?_
        refine v_get O dX5_go_70 fo_X5_12 sh_39 rfl rfl ?_
        refine v_get O dX5_go_73 fo_X5_74 sh_40 rfl rfl ?_
        refine v_iload_n O dX5_go_76 rfl 1 rfl ?_
        refine v_icmp_gt (tgt := 92) O dX5_go_77 (by decide) (fun g4 => ?_) (fun g4 => ?_)
        · exact v_vret O r dX5_go_92 ⟨rfl, ((((h.2 g1).2 g2).2 g3).1 g4)⟩
        · refine v_aload_n O dX5_go_80 rfl 0 rfl ?_
          refine v_iload_n O dX5_go_81 rfl 2 rfl ?_
          refine v_callV (rm' := { frames := 2, cells := 0, slots := 0, locals := 47 }) (As := [.int a2]) (st := []) O dX5_go_82 ci_X5_tryOn ml_X5_77 mi_X5_tryOn sh_39 rfl ⟨rfl, rfl, (by decide), (by decide)⟩ rfl (Nat.le_of_ble_eq_true rfl) rfl (mX5_tryOn ((((h.2 g1).2 g2).2 g3).2 g4)) (k_I (fun r5 X6 Y7 h8 => ?_))
          refine v_istore_n (lv' := [(2, .int r5), (0, .ref 39), (1, .int a1), (3, .int a3)]) O dX5_go_85 rfl (by decide) rfl ?_
          obtain ⟨w9, hw10⟩ : ∃ y : Int32, y = a3 + 1 := ⟨_, rfl⟩
          refine v_iinc (v := w9) (j := 3) O dX5_go_86 rfl (by rw [hw10]; exact congrArg _ kc_1) (by decide) (lv' := [(3, .int w9), (2, .int r5), (0, .ref 39), (1, .int a1)]) rfl ?_
          refine v_goto O dX5_go_89 (tgt := 52) (by decide) ?_
          exact v_loc [2, 3, 1, 0] rfl (e52 a1 r5 w9 X6 Y7 (h8 w9 hw10))
set_option maxHeartbeats 4000000 in
set_option maxRecDepth 100000 in
theorem kX5_go_s {Γ : Cxt} {Q : XT → YT → Prop} (O : Ok Γ RX5 cX5_go 4 { frames := 3, cells := 0, slots := 0, locals := 70 }) (r : Ret Γ none (qV Q)) {I52 : Int32 → Int32 → Int32 → XT → YT → Prop} (e52 : ∀ (a1 : Int32) (a2 : Int32) (a3 : Int32) (X : XT) (Y : YT), I52 a1 a2 a3 X Y → V Γ 52 [(0, .ref 39), (1, .int a1), (2, .int a2), (3, .int a3)] [] X Y) {p0 : Int32} {X : XT} {Y : YT} (h : BX5_go_s I52 Q p0 X Y) : V Γ 0 [(0, .ref 39), (1, .int p0)] [] X Y := by
  refine v_aload_n O dX5_go_0 rfl 0 rfl ?_
  refine v_get O dX5_go_1 fo_X5_12 sh_39 rfl rfl ?_
  refine v_callV (rm' := { frames := 1, cells := 0, slots := 0, locals := 23 }) (As := []) (st := []) O dX5_go_4 ci_X7_clear ml_X5_46 mi_X7_clear sh_40 rfl ⟨rfl, rfl, (by decide), (by decide)⟩ rfl (Nat.le_of_ble_eq_true rfl) rfl (mX7_clear h) (k_V (fun X2 Y3 h4 => ?_))
  refine v_aload_n O dX5_go_7 rfl 0 rfl ?_
  refine v_iconst O dX5_go_8 kc_0 ?_
  refine v_putI O dX5_go_9 fo_X5_49 fp_5_9 sh_39 rfl rfl rfl ?_
  refine v_aload_n O dX5_go_12 rfl 0 rfl ?_
  refine v_iconst O dX5_go_13 kc_0 ?_
  refine v_putI O dX5_go_14 fo_X5_53 fp_5_10 sh_39 rfl rfl rfl ?_
  refine v_aload_n O dX5_go_17 rfl 0 rfl ?_
  refine v_iconst O dX5_go_18 kc_0 ?_
  refine v_putI O dX5_go_19 fo_X5_56 fp_5_11 sh_39 rfl (by decide) (by decide) ?_
  refine v_aload_n O dX5_go_22 rfl 0 rfl ?_
  refine v_get O dX5_go_23 fo_X5_42 sh_39 rfl rfl ?_
  refine v_get O dX5_go_26 fo_X5_60 sh_31 rfl rfl ?_
  refine v_if_ne (tgt := 43) O dX5_go_29 (by decide) (fun g5 => ?_) (fun g5 => ?_)
  · refine v_aload_n O dX5_go_43 rfl 0 rfl ?_
    refine v_iconst O dX5_go_44 kc_0 ?_
    refine v_callV (rm' := { frames := 1, cells := 0, slots := 0, locals := 21 }) (As := [.int 0]) (st := []) O dX5_go_45 ci_X5_enter ml_X5_69 mi_X5_enter sh_39 rfl ⟨rfl, rfl, (by decide), (by decide)⟩ rfl (Nat.le_of_ble_eq_true rfl) rfl (mX5_enter (h4.1 g5)) (k_V (fun X7 Y8 h9 => ?_))
    refine v_iconst O dX5_go_48 kc_0 ?_
    refine v_istore_n (lv' := [(2, .int 0), (0, .ref 39), (1, .int p0)]) O dX5_go_49 rfl (by decide) rfl ?_
    refine v_iconst O dX5_go_50 kc_0 ?_
    refine v_istore_n (lv' := [(3, .int 0), (2, .int 0), (0, .ref 39), (1, .int p0)]) O dX5_go_51 rfl (by decide) rfl ?_
    exact v_loc [2, 3, 1, 0] rfl (e52 p0 0 0 X7 Y8 h9)
  · refine v_aload_n O dX5_go_32 rfl 0 rfl ?_
    refine v_get O dX5_go_33 fo_X5_12 sh_39 rfl rfl ?_
    refine v_iconst O dX5_go_36 kc_0 ?_
    refine v_lconst O dX5_go_37 (v := 1) (by decide) ?_
    refine v_iconst O dX5_go_38 kc_0 ?_
    refine v_callV (rm' := { frames := 0, cells := 0, slots := 0, locals := 0 }) (As := [.int 0, .long (1 : Int64), .int 0]) (st := []) O dX5_go_39 ci_X7_add ml_X5_65 mi_X7_add sh_40 rfl ⟨rfl, rfl, (by decide), (by decide)⟩ rfl (Nat.le_of_ble_eq_true rfl) rfl (mX7_add (h4.2 g5)) (k_V (fun X11 Y12 h13 => ?_))
    exact v_vret O r dX5_go_42 ⟨rfl, h13⟩
set_option maxRecDepth 100000 in
theorem mX5_go {Γ : Cxt} {p0 : Int32} {X : XT} {Y : YT} {Q : XT → YT → Prop} (h : PX5_go p0 X Y Q) : MT Γ yX5_go (.code yX5_go cX5_go 4 none :: wl) { frames := 3, cells := 0, slots := 0, locals := 70 } [.ref 39, .int p0] X Y (qV Q) :=
  mt_of (by decide) (Nat.le_of_ble_eq_true rfl) (fun Γ _ O r => kX5_go_s O r (fun _ _ _ _ _ g => g) (h (fun a1 a2 a3 X Y => V Γ 52 [(0, .ref 39), (1, .int a1), (2, .int a2), (3, .int a3)] [] X Y) (fun _ _ _ _ _ g => kX5_go_52 O r (fun _ _ _ _ _ g => g) g)))
theorem dX7_ask_0 : decode cX7_ask 0 = .ok (.aload_n 0, 1) := by decide +kernel
theorem dX7_ask_1 : decode cX7_ask 1 = .ok (.iload_n 1, 1) := by decide +kernel
theorem dX7_ask_2 : decode cX7_ask 2 = .ok (.putfield 15, 3) := by decide +kernel
theorem dX7_ask_5 : decode cX7_ask 5 = .ok (.aload_n 0, 1) := by decide +kernel
theorem dX7_ask_6 : decode cX7_ask 6 = .ok (.iload_n 2, 1) := by decide +kernel
theorem dX7_ask_7 : decode cX7_ask 7 = .ok (.putfield 19, 3) := by decide +kernel
theorem dX7_ask_10 : decode cX7_ask 10 = .ok (.return_, 1) := by decide +kernel
def BX7_ask_s (Q : XT → YT → Prop) (p0 : Int32) (p1 : Int32) (X : XT) (Y : YT) : Prop :=
  Q (sX (sX X 40 5 p0) 40 6 p1) Y
def PX7_ask (p0 : Int32) (p1 : Int32) (X : XT) (Y : YT) (Q : XT → YT → Prop) : Prop :=  BX7_ask_s Q p0 p1 X Y
set_option maxHeartbeats 4000000 in
set_option maxRecDepth 100000 in
theorem kX7_ask_s {Γ : Cxt} {Q : XT → YT → Prop} (O : Ok Γ RX7 cX7_ask 3 { frames := 0, cells := 0, slots := 0, locals := 0 }) (r : Ret Γ none (qV Q)) {p0 : Int32} {p1 : Int32} {X : XT} {Y : YT} (h : BX7_ask_s Q p0 p1 X Y) : V Γ 0 [(0, .ref 40), (1, .int p0), (2, .int p1)] [] X Y := by
  refine v_aload_n O dX7_ask_0 rfl 0 rfl ?_
  refine v_iload_n O dX7_ask_1 rfl 1 rfl ?_
  refine v_putI O dX7_ask_2 fo_X7_15 fp_7_5 sh_40 rfl rfl rfl ?_
  refine v_aload_n O dX7_ask_5 rfl 0 rfl ?_
  refine v_iload_n O dX7_ask_6 rfl 2 rfl ?_
  refine v_putI O dX7_ask_7 fo_X7_19 fp_7_6 sh_40 rfl rfl rfl ?_
  exact v_vret O r dX7_ask_10 ⟨rfl, h⟩
set_option maxRecDepth 100000 in
theorem mX7_ask {Γ : Cxt} {p0 : Int32} {p1 : Int32} {X : XT} {Y : YT} {Q : XT → YT → Prop} (h : PX7_ask p0 p1 X Y Q) : MT Γ yX7_ask (.code yX7_ask cX7_ask 3 none :: wl) { frames := 0, cells := 0, slots := 0, locals := 0 } [.ref 40, .int p0, .int p1] X Y (qV Q) :=
  mt_of (by decide) (Nat.le_of_ble_eq_true rfl) (fun Γ _ O r => kX7_ask_s O r  (h ))
theorem dX7_inSome_0 : decode cX7_inSome 0 = .ok (.iconst 0, 1) := by decide +kernel
theorem dX7_inSome_1 : decode cX7_inSome 1 = .ok (.istore_n 2, 1) := by decide +kernel
theorem dX7_inSome_2 : decode cX7_inSome 2 = .ok (.iconst 0, 1) := by decide +kernel
theorem dX7_inSome_3 : decode cX7_inSome 3 = .ok (.istore_n 3, 1) := by decide +kernel
theorem dX7_inSome_4 : decode cX7_inSome 4 = .ok (.iload_n 3, 1) := by decide +kernel
theorem dX7_inSome_5 : decode cX7_inSome 5 = .ok (.iload_n 1, 1) := by decide +kernel
theorem dX7_inSome_6 : decode cX7_inSome 6 = .ok (.if_icmp .ge 24, 3) := by decide +kernel
theorem dX7_inSome_9 : decode cX7_inSome 9 = .ok (.iload_n 3, 1) := by decide +kernel
theorem dX7_inSome_10 : decode cX7_inSome 10 = .ok (.bipush 18, 2) := by decide +kernel
theorem dX7_inSome_12 : decode cX7_inSome 12 = .ok (.if_icmp .ge 18, 3) := by decide +kernel
theorem dX7_inSome_15 : decode cX7_inSome 15 = .ok (.iload_n 2, 1) := by decide +kernel
theorem dX7_inSome_16 : decode cX7_inSome 16 = .ok (.aload_n 0, 1) := by decide +kernel
theorem dX7_inSome_17 : decode cX7_inSome 17 = .ok (.getfield 9, 3) := by decide +kernel
theorem dX7_inSome_20 : decode cX7_inSome 20 = .ok (.iload_n 3, 1) := by decide +kernel
theorem dX7_inSome_21 : decode cX7_inSome 21 = .ok (.iaload, 1) := by decide +kernel
theorem dX7_inSome_22 : decode cX7_inSome 22 = .ok (.ior, 1) := by decide +kernel
theorem dX7_inSome_23 : decode cX7_inSome 23 = .ok (.istore_n 2, 1) := by decide +kernel
theorem dX7_inSome_24 : decode cX7_inSome 24 = .ok (.iinc 3 1, 3) := by decide +kernel
theorem dX7_inSome_27 : decode cX7_inSome 27 = .ok (.goto (-23), 3) := by decide +kernel
theorem dX7_inSome_30 : decode cX7_inSome 30 = .ok (.iload_n 2, 1) := by decide +kernel
theorem dX7_inSome_31 : decode cX7_inSome 31 = .ok (.ireturn, 1) := by decide +kernel
def BX7_inSome_4 (I4 : Int32 → Int32 → Int32 → XT → YT → Prop) (Q : Int32 → XT → YT → Prop) (a1 : Int32) (a2 : Int32) (a3 : Int32) (X : XT) (Y : YT) : Prop :=
  ((a1 ≤ a3 → Q a2 X Y) ∧ (¬ a1 ≤ a3 → ((18 ≤ a3 → Q a2 X Y) ∧ (¬ 18 ≤ a3 → vp_in a3 18 ∧ ∀ w3 : Int32, w3 = (a2 ||| (X 41 a3.toNatClampNeg)) → ∀ w5 : Int32, w5 = a3 + 1 → I4 a1 w3 w5 X Y))))
def BX7_inSome_s (I4 : Int32 → Int32 → Int32 → XT → YT → Prop) (Q : Int32 → XT → YT → Prop) (p0 : Int32) (X : XT) (Y : YT) : Prop :=
  I4 p0 0 0 X Y
def PX7_inSome (p0 : Int32) (X : XT) (Y : YT) (Q : Int32 → XT → YT → Prop) : Prop := ∀ (I4 : Int32 → Int32 → Int32 → XT → YT → Prop), (∀ (a1 : Int32) (a2 : Int32) (a3 : Int32) (X : XT) (Y : YT), BX7_inSome_4 I4 Q a1 a2 a3 X Y → I4 a1 a2 a3 X Y) → BX7_inSome_s I4 Q p0 X Y
set_option maxHeartbeats 4000000 in
set_option maxRecDepth 100000 in
theorem kX7_inSome_4 {Γ : Cxt} {Q : Int32 → XT → YT → Prop} (O : Ok Γ RX7 cX7_inSome 4 { frames := 0, cells := 0, slots := 0, locals := 0 }) (r : Ret Γ (some .int) (qI Q)) {I4 : Int32 → Int32 → Int32 → XT → YT → Prop} (e4 : ∀ (a1 : Int32) (a2 : Int32) (a3 : Int32) (X : XT) (Y : YT), I4 a1 a2 a3 X Y → V Γ 4 [(0, .ref 40), (1, .int a1), (2, .int a2), (3, .int a3)] [] X Y) {a1 : Int32} {a2 : Int32} {a3 : Int32} {X : XT} {Y : YT} (h : BX7_inSome_4 I4 Q a1 a2 a3 X Y) : V Γ 4 [(0, .ref 40), (1, .int a1), (2, .int a2), (3, .int a3)] [] X Y := by
  refine v_iload_n O dX7_inSome_4 rfl 3 rfl ?_
  refine v_iload_n O dX7_inSome_5 rfl 1 rfl ?_
  refine v_icmp_ge (tgt := 30) O dX7_inSome_6 (by decide) (fun g1 => ?_) (fun g1 => ?_)
  · refine v_iload_n O dX7_inSome_30 rfl 2 rfl ?_
    exact v_iret O r dX7_inSome_31 ⟨_, rfl, (h.1 g1)⟩
  · refine v_iload_n O dX7_inSome_9 rfl 3 rfl ?_
    refine v_bipush O dX7_inSome_10 kb_18 ?_
    refine v_icmp_ge (tgt := 30) O dX7_inSome_12 (by decide) (fun g2 => ?_) (fun g2 => ?_)
    · refine v_iload_n O dX7_inSome_30 rfl 2 rfl ?_
      exact v_iret O r dX7_inSome_31 ⟨_, rfl, ((h.2 g1).1 g2)⟩
    · refine v_iload_n O dX7_inSome_15 rfl 2 rfl ?_
      refine v_aload_n O dX7_inSome_16 rfl 0 rfl ?_
      refine v_get O dX7_inSome_17 fo_X7_9 sh_40 rfl rfl ?_
      refine v_iload_n O dX7_inSome_20 rfl 3 rfl ?_
      refine v_iald O dX7_inSome_21 sh_41 ((h.2 g1).2 g2).1 ?_
      refine v_ior O dX7_inSome_22 ?_
      refine v_topi (fun w3 hw4 => ?_)
      refine v_istore_n (lv' := [(2, .int w3), (0, .ref 40), (1, .int a1), (3, .int a3)]) O dX7_inSome_23 rfl (by decide) rfl ?_
      obtain ⟨w5, hw6⟩ : ∃ y : Int32, y = a3 + 1 := ⟨_, rfl⟩
      refine v_iinc (v := w5) (j := 3) O dX7_inSome_24 rfl (by rw [hw6]; exact congrArg _ kc_1) (by decide) (lv' := [(3, .int w5), (2, .int w3), (0, .ref 40), (1, .int a1)]) rfl ?_
      refine v_goto O dX7_inSome_27 (tgt := 4) (by decide) ?_
      exact v_loc [2, 3, 1, 0] rfl (e4 a1 w3 w5 X Y ((((h.2 g1).2 g2).2 w3 hw4) w5 hw6))
set_option maxHeartbeats 4000000 in
set_option maxRecDepth 100000 in
theorem kX7_inSome_s {Γ : Cxt} {Q : Int32 → XT → YT → Prop} (O : Ok Γ RX7 cX7_inSome 4 { frames := 0, cells := 0, slots := 0, locals := 0 }) (r : Ret Γ (some .int) (qI Q)) {I4 : Int32 → Int32 → Int32 → XT → YT → Prop} (e4 : ∀ (a1 : Int32) (a2 : Int32) (a3 : Int32) (X : XT) (Y : YT), I4 a1 a2 a3 X Y → V Γ 4 [(0, .ref 40), (1, .int a1), (2, .int a2), (3, .int a3)] [] X Y) {p0 : Int32} {X : XT} {Y : YT} (h : BX7_inSome_s I4 Q p0 X Y) : V Γ 0 [(0, .ref 40), (1, .int p0)] [] X Y := by
  refine v_iconst O dX7_inSome_0 kc_0 ?_
  refine v_istore_n (lv' := [(2, .int 0), (0, .ref 40), (1, .int p0)]) O dX7_inSome_1 rfl (by decide) rfl ?_
  refine v_iconst O dX7_inSome_2 kc_0 ?_
  refine v_istore_n (lv' := [(3, .int 0), (2, .int 0), (0, .ref 40), (1, .int p0)]) O dX7_inSome_3 rfl (by decide) rfl ?_
  exact v_loc [2, 3, 1, 0] rfl (e4 p0 0 0 X Y h)
set_option maxRecDepth 100000 in
theorem mX7_inSome {Γ : Cxt} {p0 : Int32} {X : XT} {Y : YT} {Q : Int32 → XT → YT → Prop} (h : PX7_inSome p0 X Y Q) : MT Γ yX7_inSome (.code yX7_inSome cX7_inSome 4 (some .int) :: wl) { frames := 0, cells := 0, slots := 0, locals := 0 } [.ref 40, .int p0] X Y (qI Q) :=
  mt_of (by decide) (Nat.le_of_ble_eq_true rfl) (fun Γ _ O r => kX7_inSome_s O r (fun _ _ _ _ _ g => g) (h (fun a1 a2 a3 X Y => V Γ 4 [(0, .ref 40), (1, .int a1), (2, .int a2), (3, .int a3)] [] X Y) (fun _ _ _ _ _ g => kX7_inSome_4 O r (fun _ _ _ _ _ g => g) g)))
theorem dX7_toldNames_0 : decode cX7_toldNames 0 = .ok (.iconst 0, 1) := by decide +kernel
theorem dX7_toldNames_1 : decode cX7_toldNames 1 = .ok (.istore_n 2, 1) := by decide +kernel
theorem dX7_toldNames_2 : decode cX7_toldNames 2 = .ok (.iconst 0, 1) := by decide +kernel
theorem dX7_toldNames_3 : decode cX7_toldNames 3 = .ok (.istore_n 3, 1) := by decide +kernel
theorem dX7_toldNames_4 : decode cX7_toldNames 4 = .ok (.iload_n 3, 1) := by decide +kernel
theorem dX7_toldNames_5 : decode cX7_toldNames 5 = .ok (.iload_n 1, 1) := by decide +kernel
theorem dX7_toldNames_6 : decode cX7_toldNames 6 = .ok (.if_icmp .ge 41, 3) := by decide +kernel
theorem dX7_toldNames_9 : decode cX7_toldNames 9 = .ok (.iload_n 3, 1) := by decide +kernel
theorem dX7_toldNames_10 : decode cX7_toldNames 10 = .ok (.bipush 18, 2) := by decide +kernel
theorem dX7_toldNames_12 : decode cX7_toldNames 12 = .ok (.if_icmp .ge 35, 3) := by decide +kernel
theorem dX7_toldNames_15 : decode cX7_toldNames 15 = .ok (.iload_n 2, 1) := by decide +kernel
theorem dX7_toldNames_16 : decode cX7_toldNames 16 = .ok (.aload_n 0, 1) := by decide +kernel
theorem dX7_toldNames_17 : decode cX7_toldNames 17 = .ok (.getfield 9, 3) := by decide +kernel
theorem dX7_toldNames_20 : decode cX7_toldNames 20 = .ok (.iload_n 3, 1) := by decide +kernel
theorem dX7_toldNames_21 : decode cX7_toldNames 21 = .ok (.iaload, 1) := by decide +kernel
theorem dX7_toldNames_22 : decode cX7_toldNames 22 = .ok (.invokestatic 45, 3) := by decide +kernel
theorem dX7_toldNames_25 : decode cX7_toldNames 25 = .ok (.iconst 1, 1) := by decide +kernel
theorem dX7_toldNames_26 : decode cX7_toldNames 26 = .ok (.if_icmp .ne 12, 3) := by decide +kernel
theorem dX7_toldNames_29 : decode cX7_toldNames 29 = .ok (.aload_n 0, 1) := by decide +kernel
theorem dX7_toldNames_30 : decode cX7_toldNames 30 = .ok (.getfield 9, 3) := by decide +kernel
theorem dX7_toldNames_33 : decode cX7_toldNames 33 = .ok (.iload_n 3, 1) := by decide +kernel
theorem dX7_toldNames_34 : decode cX7_toldNames 34 = .ok (.iaload, 1) := by decide +kernel
theorem dX7_toldNames_35 : decode cX7_toldNames 35 = .ok (.goto 4, 3) := by decide +kernel
theorem dX7_toldNames_38 : decode cX7_toldNames 38 = .ok (.iconst 0, 1) := by decide +kernel
theorem dX7_toldNames_39 : decode cX7_toldNames 39 = .ok (.ior, 1) := by decide +kernel
theorem dX7_toldNames_40 : decode cX7_toldNames 40 = .ok (.istore_n 2, 1) := by decide +kernel
theorem dX7_toldNames_41 : decode cX7_toldNames 41 = .ok (.iinc 3 1, 3) := by decide +kernel
theorem dX7_toldNames_44 : decode cX7_toldNames 44 = .ok (.goto (-40), 3) := by decide +kernel
theorem dX7_toldNames_47 : decode cX7_toldNames 47 = .ok (.iload_n 2, 1) := by decide +kernel
theorem dX7_toldNames_48 : decode cX7_toldNames 48 = .ok (.ireturn, 1) := by decide +kernel
def BX7_toldNames_4 (I4 : Int32 → Int32 → Int32 → XT → YT → Prop) (Q : Int32 → XT → YT → Prop) (a1 : Int32) (a2 : Int32) (a3 : Int32) (X : XT) (Y : YT) : Prop :=
  ((a1 ≤ a3 → Q a2 X Y) ∧ (¬ a1 ≤ a3 → ((18 ≤ a3 → Q a2 X Y) ∧ (¬ 18 ≤ a3 → vp_in a3 18 ∧ PJ6_bitCount_0f7a4 (X 41 a3.toNatClampNeg) X Y (fun r3 X4 Y5 => ((¬ r3 = 1 → ∀ w8 : Int32, w8 = (a2 ||| 0) → ∀ w10 : Int32, w10 = a3 + 1 → I4 a1 w8 w10 X4 Y5) ∧ (r3 = 1 → vp_in a3 18 ∧ ∀ w12 : Int32, w12 = (a2 ||| (X4 41 a3.toNatClampNeg)) → ∀ w14 : Int32, w14 = a3 + 1 → I4 a1 w12 w14 X4 Y5)))))))
def BX7_toldNames_s (I4 : Int32 → Int32 → Int32 → XT → YT → Prop) (Q : Int32 → XT → YT → Prop) (p0 : Int32) (X : XT) (Y : YT) : Prop :=
  I4 p0 0 0 X Y
def PX7_toldNames (p0 : Int32) (X : XT) (Y : YT) (Q : Int32 → XT → YT → Prop) : Prop := ∀ (I4 : Int32 → Int32 → Int32 → XT → YT → Prop), (∀ (a1 : Int32) (a2 : Int32) (a3 : Int32) (X : XT) (Y : YT), BX7_toldNames_4 I4 Q a1 a2 a3 X Y → I4 a1 a2 a3 X Y) → BX7_toldNames_s I4 Q p0 X Y
set_option maxHeartbeats 4000000 in
set_option maxRecDepth 100000 in
theorem kX7_toldNames_4 {Γ : Cxt} {Q : Int32 → XT → YT → Prop} (O : Ok Γ RX7 cX7_toldNames 4 { frames := 1, cells := 0, slots := 0, locals := 20 }) (r : Ret Γ (some .int) (qI Q)) {I4 : Int32 → Int32 → Int32 → XT → YT → Prop} (e4 : ∀ (a1 : Int32) (a2 : Int32) (a3 : Int32) (X : XT) (Y : YT), I4 a1 a2 a3 X Y → V Γ 4 [(0, .ref 40), (1, .int a1), (2, .int a2), (3, .int a3)] [] X Y) {a1 : Int32} {a2 : Int32} {a3 : Int32} {X : XT} {Y : YT} (h : BX7_toldNames_4 I4 Q a1 a2 a3 X Y) : V Γ 4 [(0, .ref 40), (1, .int a1), (2, .int a2), (3, .int a3)] [] X Y := by
  refine v_iload_n O dX7_toldNames_4 rfl 3 rfl ?_
  refine v_iload_n O dX7_toldNames_5 rfl 1 rfl ?_
  refine v_icmp_ge (tgt := 47) O dX7_toldNames_6 (by decide) (fun g1 => ?_) (fun g1 => ?_)
  · refine v_iload_n O dX7_toldNames_47 rfl 2 rfl ?_
    exact v_iret O r dX7_toldNames_48 ⟨_, rfl, (h.1 g1)⟩
  · refine v_iload_n O dX7_toldNames_9 rfl 3 rfl ?_
    refine v_bipush O dX7_toldNames_10 kb_18 ?_
    refine v_icmp_ge (tgt := 47) O dX7_toldNames_12 (by decide) (fun g2 => ?_) (fun g2 => ?_)
    · refine v_iload_n O dX7_toldNames_47 rfl 2 rfl ?_
      exact v_iret O r dX7_toldNames_48 ⟨_, rfl, ((h.2 g1).1 g2)⟩
    · refine v_iload_n O dX7_toldNames_15 rfl 2 rfl ?_
      refine v_aload_n O dX7_toldNames_16 rfl 0 rfl ?_
      refine v_get O dX7_toldNames_17 fo_X7_9 sh_40 rfl rfl ?_
      refine v_iload_n O dX7_toldNames_20 rfl 3 rfl ?_
      refine v_iald O dX7_toldNames_21 sh_41 ((h.2 g1).2 g2).1 ?_
      refine v_callS (rm' := { frames := 0, cells := 0, slots := 0, locals := 0 }) (As := [.int (X 41 a3.toNatClampNeg)]) (st := [.int a2]) O dX7_toldNames_22 ci_J6_bitCount_0f7a4 ml_X7_45 ms_J6_bitCount_0f7a4 ⟨rfl, rfl, (by decide), (by decide)⟩ rfl (Nat.le_of_ble_eq_true rfl) rfl (mJ6_bitCount_0f7a4 ((h.2 g1).2 g2).2) (k_I (fun r3 X4 Y5 h6 => ?_))
      refine v_iconst O dX7_toldNames_25 kc_1 ?_
      refine v_icmp_ne (tgt := 38) O dX7_toldNames_26 (by decide) (fun g7 => ?_) (fun g7 => ?_)
      · refine v_iconst O dX7_toldNames_38 kc_0 ?_
        refine v_ior O dX7_toldNames_39 ?_
        refine v_topi (fun w8 hw9 => ?_)
        refine v_istore_n (lv' := [(2, .int w8), (0, .ref 40), (1, .int a1), (3, .int a3)]) O dX7_toldNames_40 rfl (by decide) rfl ?_
        obtain ⟨w10, hw11⟩ : ∃ y : Int32, y = a3 + 1 := ⟨_, rfl⟩
        refine v_iinc (v := w10) (j := 3) O dX7_toldNames_41 rfl (by rw [hw11]; exact congrArg _ kc_1) (by decide) (lv' := [(3, .int w10), (2, .int w8), (0, .ref 40), (1, .int a1)]) rfl ?_
        refine v_goto O dX7_toldNames_44 (tgt := 4) (by decide) ?_
        exact v_loc [2, 3, 1, 0] rfl (e4 a1 w8 w10 X4 Y5 (((h6.1 g7) w8 hw9) w10 hw11))
      · refine v_aload_n O dX7_toldNames_29 rfl 0 rfl ?_
        refine v_get O dX7_toldNames_30 fo_X7_9 sh_40 rfl rfl ?_
        refine v_iload_n O dX7_toldNames_33 rfl 3 rfl ?_
        refine v_iald O dX7_toldNames_34 sh_41 (h6.2 g7).1 ?_
        refine v_goto O dX7_toldNames_35 (tgt := 39) (by decide) ?_
        refine v_ior O dX7_toldNames_39 ?_
        refine v_topi (fun w12 hw13 => ?_)
        refine v_istore_n (lv' := [(2, .int w12), (0, .ref 40), (1, .int a1), (3, .int a3)]) O dX7_toldNames_40 rfl (by decide) rfl ?_
        obtain ⟨w14, hw15⟩ : ∃ y : Int32, y = a3 + 1 := ⟨_, rfl⟩
        refine v_iinc (v := w14) (j := 3) O dX7_toldNames_41 rfl (by rw [hw15]; exact congrArg _ kc_1) (by decide) (lv' := [(3, .int w14), (2, .int w12), (0, .ref 40), (1, .int a1)]) rfl ?_
        refine v_goto O dX7_toldNames_44 (tgt := 4) (by decide) ?_
        exact v_loc [2, 3, 1, 0] rfl (e4 a1 w12 w14 X4 Y5 (((h6.2 g7).2 w12 hw13) w14 hw15))
set_option maxHeartbeats 4000000 in
set_option maxRecDepth 100000 in
theorem kX7_toldNames_s {Γ : Cxt} {Q : Int32 → XT → YT → Prop} (O : Ok Γ RX7 cX7_toldNames 4 { frames := 1, cells := 0, slots := 0, locals := 20 }) (r : Ret Γ (some .int) (qI Q)) {I4 : Int32 → Int32 → Int32 → XT → YT → Prop} (e4 : ∀ (a1 : Int32) (a2 : Int32) (a3 : Int32) (X : XT) (Y : YT), I4 a1 a2 a3 X Y → V Γ 4 [(0, .ref 40), (1, .int a1), (2, .int a2), (3, .int a3)] [] X Y) {p0 : Int32} {X : XT} {Y : YT} (h : BX7_toldNames_s I4 Q p0 X Y) : V Γ 0 [(0, .ref 40), (1, .int p0)] [] X Y := by
  refine v_iconst O dX7_toldNames_0 kc_0 ?_
  refine v_istore_n (lv' := [(2, .int 0), (0, .ref 40), (1, .int p0)]) O dX7_toldNames_1 rfl (by decide) rfl ?_
  refine v_iconst O dX7_toldNames_2 kc_0 ?_
  refine v_istore_n (lv' := [(3, .int 0), (2, .int 0), (0, .ref 40), (1, .int p0)]) O dX7_toldNames_3 rfl (by decide) rfl ?_
  exact v_loc [2, 3, 1, 0] rfl (e4 p0 0 0 X Y h)
set_option maxRecDepth 100000 in
theorem mX7_toldNames {Γ : Cxt} {p0 : Int32} {X : XT} {Y : YT} {Q : Int32 → XT → YT → Prop} (h : PX7_toldNames p0 X Y Q) : MT Γ yX7_toldNames (.code yX7_toldNames cX7_toldNames 4 (some .int) :: wl) { frames := 1, cells := 0, slots := 0, locals := 20 } [.ref 40, .int p0] X Y (qI Q) :=
  mt_of (by decide) (Nat.le_of_ble_eq_true rfl) (fun Γ _ O r => kX7_toldNames_s O r (fun _ _ _ _ _ g => g) (h (fun a1 a2 a3 X Y => V Γ 4 [(0, .ref 40), (1, .int a1), (2, .int a2), (3, .int a3)] [] X Y) (fun _ _ _ _ _ g => kX7_toldNames_4 O r (fun _ _ _ _ _ g => g) g)))
theorem dX8_append_0 : decode cX8_append 0 = .ok (.aload_n 0, 1) := by decide +kernel
theorem dX8_append_1 : decode cX8_append 1 = .ok (.getfield 15, 3) := by decide +kernel
theorem dX8_append_4 : decode cX8_append 4 = .ok (.bipush 120, 2) := by decide +kernel
theorem dX8_append_6 : decode cX8_append 6 = .ok (.if_icmp .ge 23, 3) := by decide +kernel
theorem dX8_append_9 : decode cX8_append 9 = .ok (.aload_n 0, 1) := by decide +kernel
theorem dX8_append_10 : decode cX8_append 10 = .ok (.getfield 9, 3) := by decide +kernel
theorem dX8_append_13 : decode cX8_append 13 = .ok (.aload_n 0, 1) := by decide +kernel
theorem dX8_append_14 : decode cX8_append 14 = .ok (.getfield 15, 3) := by decide +kernel
theorem dX8_append_17 : decode cX8_append 17 = .ok (.iload_n 1, 1) := by decide +kernel
theorem dX8_append_18 : decode cX8_append 18 = .ok (.iastore, 1) := by decide +kernel
theorem dX8_append_19 : decode cX8_append 19 = .ok (.aload_n 0, 1) := by decide +kernel
theorem dX8_append_20 : decode cX8_append 20 = .ok (.dup, 1) := by decide +kernel
theorem dX8_append_21 : decode cX8_append 21 = .ok (.getfield 15, 3) := by decide +kernel
theorem dX8_append_24 : decode cX8_append 24 = .ok (.iconst 1, 1) := by decide +kernel
theorem dX8_append_25 : decode cX8_append 25 = .ok (.iadd, 1) := by decide +kernel
theorem dX8_append_26 : decode cX8_append 26 = .ok (.putfield 15, 3) := by decide +kernel
theorem dX8_append_29 : decode cX8_append 29 = .ok (.return_, 1) := by decide +kernel
def BX8_append_s (Q : XT → YT → Prop) (p0 : Int32) (X : XT) (Y : YT) : Prop :=
  ((120 ≤ (X 1 1) → Q X Y) ∧ (¬ 120 ≤ (X 1 1) → vp_in (X 1 1) 120 ∧ ∀ X2 : XT, X2 = sX (sX X 2 (X 1 1).toNatClampNeg p0) 1 1 (((sX X 2 (X 1 1).toNatClampNeg p0) 1 1) + 1) → Q X2 Y))
def PX8_append (p0 : Int32) (X : XT) (Y : YT) (Q : XT → YT → Prop) : Prop :=  BX8_append_s Q p0 X Y
set_option maxHeartbeats 4000000 in
set_option maxRecDepth 100000 in
theorem kX8_append_s {Γ : Cxt} {Q : XT → YT → Prop} (O : Ok Γ RX8 cX8_append 2 { frames := 0, cells := 0, slots := 0, locals := 0 }) (r : Ret Γ none (qV Q)) {p0 : Int32} {X : XT} {Y : YT} (h : BX8_append_s Q p0 X Y) : V Γ 0 [(0, .ref 1), (1, .int p0)] [] X Y := by
  refine v_aload_n O dX8_append_0 rfl 0 rfl ?_
  refine v_get O dX8_append_1 fo_X8_15 sh_1 rfl rfl ?_
  refine v_bipush O dX8_append_4 kb_120 ?_
  refine v_icmp_ge (tgt := 29) O dX8_append_6 (by decide) (fun g1 => ?_) (fun g1 => ?_)
  · exact v_vret O r dX8_append_29 ⟨rfl, (h.1 g1)⟩
  · refine v_aload_n O dX8_append_9 rfl 0 rfl ?_
    refine v_get O dX8_append_10 fo_X8_9 sh_1 rfl rfl ?_
    refine v_aload_n O dX8_append_13 rfl 0 rfl ?_
    refine v_get O dX8_append_14 fo_X8_15 sh_1 rfl rfl ?_
    refine v_iload_n O dX8_append_17 rfl 1 rfl ?_
    refine v_iast O dX8_append_18 sh_2 (h.2 g1).1 ?_
    refine v_aload_n O dX8_append_19 rfl 0 rfl ?_
    refine v_dup O dX8_append_20 rfl ?_
    refine v_get O dX8_append_21 fo_X8_15 sh_1 rfl rfl ?_
    refine v_iconst O dX8_append_24 kc_1 ?_
    refine v_iadd O dX8_append_25 ?_
    refine v_putI O dX8_append_26 fo_X8_15 fp_8_1 sh_1 rfl rfl rfl ?_
    refine v_nmX (fun X2 hX3 => ?_)
    exact v_vret O r dX8_append_29 ⟨rfl, ((h.2 g1).2 X2 hX3)⟩
set_option maxRecDepth 100000 in
theorem mX8_append {Γ : Cxt} {p0 : Int32} {X : XT} {Y : YT} {Q : XT → YT → Prop} (h : PX8_append p0 X Y Q) : MT Γ yX8_append (.code yX8_append cX8_append 2 none :: wl) { frames := 0, cells := 0, slots := 0, locals := 0 } [.ref 1, .int p0] X Y (qV Q) :=
  mt_of (by decide) (Nat.le_of_ble_eq_true rfl) (fun Γ _ O r => kX8_append_s O r  (h ))
theorem dX9_wide_0 : decode cX9_wide 0 = .ok (.iload_n 1, 1) := by decide +kernel
theorem dX9_wide_1 : decode cX9_wide 1 = .ok (.iconst 0, 1) := by decide +kernel
theorem dX9_wide_2 : decode cX9_wide 2 = .ok (.iconst 1, 1) := by decide +kernel
theorem dX9_wide_3 : decode cX9_wide 3 = .ok (.invokestatic 81, 3) := by decide +kernel
theorem dX9_wide_6 : decode cX9_wide 6 = .ok (.ifCond .eq 23, 3) := by decide +kernel
theorem dX9_wide_9 : decode cX9_wide 9 = .ok (.iload_n 2, 1) := by decide +kernel
theorem dX9_wide_10 : decode cX9_wide 10 = .ok (.iconst 0, 1) := by decide +kernel
theorem dX9_wide_11 : decode cX9_wide 11 = .ok (.bipush 25, 2) := by decide +kernel
theorem dX9_wide_13 : decode cX9_wide 13 = .ok (.invokestatic 81, 3) := by decide +kernel
theorem dX9_wide_16 : decode cX9_wide 16 = .ok (.ifCond .eq 13, 3) := by decide +kernel
theorem dX9_wide_19 : decode cX9_wide 19 = .ok (.iload_n 3, 1) := by decide +kernel
theorem dX9_wide_20 : decode cX9_wide 20 = .ok (.iconst 1, 1) := by decide +kernel
theorem dX9_wide_21 : decode cX9_wide 21 = .ok (.bipush 20, 2) := by decide +kernel
theorem dX9_wide_23 : decode cX9_wide 23 = .ok (.invokestatic 81, 3) := by decide +kernel
theorem dX9_wide_26 : decode cX9_wide 26 = .ok (.ifCond .ne 7, 3) := by decide +kernel
theorem dX9_wide_29 : decode cX9_wide 29 = .ok (.sipush (-1002), 3) := by decide +kernel
theorem dX9_wide_32 : decode cX9_wide 32 = .ok (.ireturn, 1) := by decide +kernel
theorem dX9_wide_33 : decode cX9_wide 33 = .ok (.aload_n 0, 1) := by decide +kernel
theorem dX9_wide_34 : decode cX9_wide 34 = .ok (.getfield 19, 3) := by decide +kernel
theorem dX9_wide_37 : decode cX9_wide 37 = .ok (.iload_n 1, 1) := by decide +kernel
theorem dX9_wide_38 : decode cX9_wide 38 = .ok (.iload_n 2, 1) := by decide +kernel
theorem dX9_wide_39 : decode cX9_wide 39 = .ok (.iload_n 3, 1) := by decide +kernel
theorem dX9_wide_40 : decode cX9_wide 40 = .ok (.invokevirtual 85, 3) := by decide +kernel
theorem dX9_wide_43 : decode cX9_wide 43 = .ok (.ireturn, 1) := by decide +kernel
def BX9_wide_s (Q : Int32 → XT → YT → Prop) (p0 : Int32) (p1 : Int32) (p2 : Int32) (X : XT) (Y : YT) : Prop :=
  PX9_within p0 0 1 X Y (fun r1 X2 Y3 => ((r1 = 0 → Q (-1002) X2 Y3) ∧ (¬ r1 = 0 → PX9_within p1 0 25 X2 Y3 (fun r6 X7 Y8 => ((r6 = 0 → Q (-1002) X7 Y8) ∧ (¬ r6 = 0 → PX9_within p2 1 20 X7 Y8 (fun r11 X12 Y13 => ((¬ r11 = 0 → PX1_widenLetter p0 p1 p2 X12 Y13 (fun r16 X17 Y18 => Q r16 X17 Y18)) ∧ (r11 = 0 → Q (-1002) X12 Y13)))))))))
def PX9_wide (p0 : Int32) (p1 : Int32) (p2 : Int32) (X : XT) (Y : YT) (Q : Int32 → XT → YT → Prop) : Prop :=  BX9_wide_s Q p0 p1 p2 X Y
set_option maxHeartbeats 4000000 in
set_option maxRecDepth 100000 in
theorem kX9_wide_s {Γ : Cxt} {Q : Int32 → XT → YT → Prop} (O : Ok Γ RX9 cX9_wide 4 { frames := 2, cells := 0, slots := 0, locals := 49 }) (r : Ret Γ (some .int) (qI Q)) {p0 : Int32} {p1 : Int32} {p2 : Int32} {X : XT} {Y : YT} (h : BX9_wide_s Q p0 p1 p2 X Y) : V Γ 0 [(0, .ref 0), (1, .int p0), (2, .int p1), (3, .int p2)] [] X Y := by
  refine v_iload_n O dX9_wide_0 rfl 1 rfl ?_
  refine v_iconst O dX9_wide_1 kc_0 ?_
  refine v_iconst O dX9_wide_2 kc_1 ?_
  refine v_callS (rm' := { frames := 0, cells := 0, slots := 0, locals := 0 }) (As := [.int p0, .int 0, .int 1]) (st := []) O dX9_wide_3 ci_X9_within ml_X9_81 ms_X9_within ⟨rfl, rfl, (by decide), (by decide)⟩ rfl (Nat.le_of_ble_eq_true rfl) rfl (mX9_within h) (k_I (fun r1 X2 Y3 h4 => ?_))
  refine v_if_eq (tgt := 29) O dX9_wide_6 (by decide) (fun g5 => ?_) (fun g5 => ?_)
  · refine v_sipush O dX9_wide_29 ks_m1002 ?_
    exact v_iret O r dX9_wide_32 ⟨_, rfl, (h4.1 g5)⟩
  · refine v_iload_n O dX9_wide_9 rfl 2 rfl ?_
    refine v_iconst O dX9_wide_10 kc_0 ?_
    refine v_bipush O dX9_wide_11 kb_25 ?_
    refine v_callS (rm' := { frames := 0, cells := 0, slots := 0, locals := 0 }) (As := [.int p1, .int 0, .int 25]) (st := []) O dX9_wide_13 ci_X9_within ml_X9_81 ms_X9_within ⟨rfl, rfl, (by decide), (by decide)⟩ rfl (Nat.le_of_ble_eq_true rfl) rfl (mX9_within (h4.2 g5)) (k_I (fun r6 X7 Y8 h9 => ?_))
    refine v_if_eq (tgt := 29) O dX9_wide_16 (by decide) (fun g10 => ?_) (fun g10 => ?_)
    · refine v_sipush O dX9_wide_29 ks_m1002 ?_
      exact v_iret O r dX9_wide_32 ⟨_, rfl, (h9.1 g10)⟩
    · refine v_iload_n O dX9_wide_19 rfl 3 rfl ?_
      refine v_iconst O dX9_wide_20 kc_1 ?_
      refine v_bipush O dX9_wide_21 kb_20 ?_
      refine v_callS (rm' := { frames := 0, cells := 0, slots := 0, locals := 0 }) (As := [.int p2, .int 1, .int 20]) (st := []) O dX9_wide_23 ci_X9_within ml_X9_81 ms_X9_within ⟨rfl, rfl, (by decide), (by decide)⟩ rfl (Nat.le_of_ble_eq_true rfl) rfl (mX9_within (h9.2 g10)) (k_I (fun r11 X12 Y13 h14 => ?_))
      refine v_if_ne (tgt := 33) O dX9_wide_26 (by decide) (fun g15 => ?_) (fun g15 => ?_)
      · refine v_aload_n O dX9_wide_33 rfl 0 rfl ?_
        refine v_get O dX9_wide_34 fo_X9_19 sh_0 rfl rfl ?_
        refine v_iload_n O dX9_wide_37 rfl 1 rfl ?_
        refine v_iload_n O dX9_wide_38 rfl 2 rfl ?_
        refine v_iload_n O dX9_wide_39 rfl 3 rfl ?_
        refine v_callV (rm' := { frames := 1, cells := 0, slots := 0, locals := 24 }) (As := [.int p0, .int p1, .int p2]) (st := []) O dX9_wide_40 ci_X1_widenLetter ml_X9_85 mi_X1_widenLetter sh_3 rfl ⟨rfl, rfl, (by decide), (by decide)⟩ rfl (Nat.le_of_ble_eq_true rfl) rfl (mX1_widenLetter (h14.1 g15)) (k_I (fun r16 X17 Y18 h19 => ?_))
        exact v_iret O r dX9_wide_43 ⟨_, rfl, h19⟩
      · refine v_sipush O dX9_wide_29 ks_m1002 ?_
        exact v_iret O r dX9_wide_32 ⟨_, rfl, (h14.2 g15)⟩
set_option maxRecDepth 100000 in
theorem mX9_wide {Γ : Cxt} {p0 : Int32} {p1 : Int32} {p2 : Int32} {X : XT} {Y : YT} {Q : Int32 → XT → YT → Prop} (h : PX9_wide p0 p1 p2 X Y Q) : MT Γ yX9_wide (.code yX9_wide cX9_wide 4 (some .int) :: wl) { frames := 2, cells := 0, slots := 0, locals := 49 } [.ref 0, .int p0, .int p1, .int p2] X Y (qI Q) :=
  mt_of (by decide) (Nat.le_of_ble_eq_true rfl) (fun Γ _ O r => kX9_wide_s O r  (h ))
theorem dX9_feed_0 : decode cX9_feed 0 = .ok (.iload_n 1, 1) := by decide +kernel
theorem dX9_feed_1 : decode cX9_feed 1 = .ok (.iconst 1, 1) := by decide +kernel
theorem dX9_feed_2 : decode cX9_feed 2 = .ok (.bipush 8, 2) := by decide +kernel
theorem dX9_feed_4 : decode cX9_feed 4 = .ok (.invokestatic 81, 3) := by decide +kernel
theorem dX9_feed_7 : decode cX9_feed 7 = .ok (.ifCond .ne 7, 3) := by decide +kernel
theorem dX9_feed_10 : decode cX9_feed 10 = .ok (.sipush (-1002), 3) := by decide +kernel
theorem dX9_feed_13 : decode cX9_feed 13 = .ok (.ireturn, 1) := by decide +kernel
theorem dX9_feed_14 : decode cX9_feed 14 = .ok (.aload_n 0, 1) := by decide +kernel
theorem dX9_feed_15 : decode cX9_feed 15 = .ok (.getfield 12, 3) := by decide +kernel
theorem dX9_feed_18 : decode cX9_feed 18 = .ok (.getfield 89, 3) := by decide +kernel
theorem dX9_feed_21 : decode cX9_feed 21 = .ok (.iload_n 1, 1) := by decide +kernel
theorem dX9_feed_22 : decode cX9_feed 22 = .ok (.iadd, 1) := by decide +kernel
theorem dX9_feed_23 : decode cX9_feed 23 = .ok (.bipush 120, 2) := by decide +kernel
theorem dX9_feed_25 : decode cX9_feed 25 = .ok (.if_icmp .le 7, 3) := by decide +kernel
theorem dX9_feed_28 : decode cX9_feed 28 = .ok (.sipush (-1004), 3) := by decide +kernel
theorem dX9_feed_31 : decode cX9_feed 31 = .ok (.ireturn, 1) := by decide +kernel
theorem dX9_feed_32 : decode cX9_feed 32 = .ok (.iload_n 1, 1) := by decide +kernel
theorem dX9_feed_33 : decode cX9_feed 33 = .ok (.iconst 1, 1) := by decide +kernel
theorem dX9_feed_34 : decode cX9_feed 34 = .ok (.isub, 1) := by decide +kernel
theorem dX9_feed_35 : decode cX9_feed 35 = .ok (.istore 4, 2) := by decide +kernel
theorem dX9_feed_37 : decode cX9_feed 37 = .ok (.iload 4, 2) := by decide +kernel
theorem dX9_feed_39 : decode cX9_feed 39 = .ok (.ifCond .lt 28, 3) := by decide +kernel
theorem dX9_feed_42 : decode cX9_feed 42 = .ok (.aload_n 0, 1) := by decide +kernel
theorem dX9_feed_43 : decode cX9_feed 43 = .ok (.getfield 12, 3) := by decide +kernel
theorem dX9_feed_46 : decode cX9_feed 46 = .ok (.lload_n 2, 1) := by decide +kernel
theorem dX9_feed_47 : decode cX9_feed 47 = .ok (.iload 4, 2) := by decide +kernel
theorem dX9_feed_49 : decode cX9_feed 49 = .ok (.bipush 8, 2) := by decide +kernel
theorem dX9_feed_51 : decode cX9_feed 51 = .ok (.imul, 1) := by decide +kernel
theorem dX9_feed_52 : decode cX9_feed 52 = .ok (.lushr, 1) := by decide +kernel
theorem dX9_feed_53 : decode cX9_feed 53 = .ok (.l2i, 1) := by decide +kernel
theorem dX9_feed_54 : decode cX9_feed 54 = .ok (.sipush 255, 3) := by decide +kernel
theorem dX9_feed_57 : decode cX9_feed 57 = .ok (.iand, 1) := by decide +kernel
theorem dX9_feed_58 : decode cX9_feed 58 = .ok (.invokevirtual 92, 3) := by decide +kernel
theorem dX9_feed_61 : decode cX9_feed 61 = .ok (.iinc 4 (-1), 3) := by decide +kernel
theorem dX9_feed_64 : decode cX9_feed 64 = .ok (.goto (-27), 3) := by decide +kernel
theorem dX9_feed_67 : decode cX9_feed 67 = .ok (.aload_n 0, 1) := by decide +kernel
theorem dX9_feed_68 : decode cX9_feed 68 = .ok (.getfield 12, 3) := by decide +kernel
theorem dX9_feed_71 : decode cX9_feed 71 = .ok (.getfield 89, 3) := by decide +kernel
theorem dX9_feed_74 : decode cX9_feed 74 = .ok (.ireturn, 1) := by decide +kernel
def BX9_feed_37 (I37 : Int64 → Int32 → XT → YT → Prop) (Q : Int32 → XT → YT → Prop) (a2 : Int64) (a4 : Int32) (X : XT) (Y : YT) : Prop :=
  ((a4 < 0 → Q (X 1 1) X Y) ∧ (¬ a4 < 0 → PX8_append ((((a2.toUInt64 >>> ((a4 * 8).toInt64.toUInt64 &&& Int64.toUInt64 63)).toInt64).toInt32) &&& 255) X Y (fun X3 Y4 => ∀ w6 : Int32, w6 = a4 + (-1) → I37 a2 w6 X3 Y4)))
def BX9_feed_s (I37 : Int64 → Int32 → XT → YT → Prop) (Q : Int32 → XT → YT → Prop) (p0 : Int32) (p1 : Int64) (X : XT) (Y : YT) : Prop :=
  PX9_within p0 1 8 X Y (fun r1 X2 Y3 => ((¬ r1 = 0 → ((((X2 1 1) + p0) ≤ 120 → ∀ w7 : Int32, w7 = (p0 - 1) → I37 p1 w7 X2 Y3) ∧ (¬ ((X2 1 1) + p0) ≤ 120 → Q (-1004) X2 Y3))) ∧ (r1 = 0 → Q (-1002) X2 Y3)))
def PX9_feed (p0 : Int32) (p1 : Int64) (X : XT) (Y : YT) (Q : Int32 → XT → YT → Prop) : Prop := ∀ (I37 : Int64 → Int32 → XT → YT → Prop), (∀ (a2 : Int64) (a4 : Int32) (X : XT) (Y : YT), BX9_feed_37 I37 Q a2 a4 X Y → I37 a2 a4 X Y) → BX9_feed_s I37 Q p0 p1 X Y
set_option maxHeartbeats 4000000 in
set_option maxRecDepth 100000 in
theorem kX9_feed_37 {Γ : Cxt} {Q : Int32 → XT → YT → Prop} (O : Ok Γ RX9 cX9_feed 5 { frames := 1, cells := 0, slots := 0, locals := 22 }) (r : Ret Γ (some .int) (qI Q)) {I37 : Int64 → Int32 → XT → YT → Prop} (e37 : ∀ (a2 : Int64) (a4 : Int32) (X : XT) (Y : YT), I37 a2 a4 X Y → V Γ 37 [(0, .ref 0), (2, .long a2), (4, .int a4)] [] X Y) {a2 : Int64} {a4 : Int32} {X : XT} {Y : YT} (h : BX9_feed_37 I37 Q a2 a4 X Y) : V Γ 37 [(0, .ref 0), (2, .long a2), (4, .int a4)] [] X Y := by
  refine v_iload O dX9_feed_37 2 rfl ?_
  refine v_if_lt (tgt := 67) O dX9_feed_39 (by decide) (fun g1 => ?_) (fun g1 => ?_)
  · refine v_aload_n O dX9_feed_67 rfl 0 rfl ?_
    refine v_get O dX9_feed_68 fo_X9_12 sh_0 rfl rfl ?_
    refine v_get O dX9_feed_71 fo_X9_89 sh_1 rfl rfl ?_
    exact v_iret O r dX9_feed_74 ⟨_, rfl, (h.1 g1)⟩
  · refine v_aload_n O dX9_feed_42 rfl 0 rfl ?_
    refine v_get O dX9_feed_43 fo_X9_12 sh_0 rfl rfl ?_
    refine v_lload_n O dX9_feed_46 rfl 1 rfl ?_
    refine v_iload O dX9_feed_47 2 rfl ?_
    refine v_bipush O dX9_feed_49 kb_8 ?_
    refine v_imul O dX9_feed_51 ?_
    refine v_lushr O dX9_feed_52 ?_
    refine v_l2i O dX9_feed_53 ?_
    refine v_sipush O dX9_feed_54 ks_255 ?_
    refine v_iand O dX9_feed_57 ?_
    refine v_callV (rm' := { frames := 0, cells := 0, slots := 0, locals := 0 }) (As := [.int ((((a2.toUInt64 >>> ((a4 * 8).toInt64.toUInt64 &&& Int64.toUInt64 63)).toInt64).toInt32) &&& 255)]) (st := []) O dX9_feed_58 ci_X8_append ml_X9_92 mi_X8_append sh_1 rfl ⟨rfl, rfl, (by decide), (by decide)⟩ rfl (Nat.le_of_ble_eq_true rfl) rfl (mX8_append (h.2 g1)) (k_V (fun X3 Y4 h5 => ?_))
    obtain ⟨w6, hw7⟩ : ∃ y : Int32, y = a4 + (-1) := ⟨_, rfl⟩
    refine v_iinc (v := w6) (j := 2) O dX9_feed_61 rfl (by rw [hw7]; exact congrArg _ kc_m1) (by decide) (lv' := [(4, .int w6), (0, .ref 0), (2, .long a2)]) rfl ?_
    refine v_goto O dX9_feed_64 (tgt := 37) (by decide) ?_
    exact v_loc [1, 2, 0] rfl (e37 a2 w6 X3 Y4 (h5 w6 hw7))
set_option maxHeartbeats 4000000 in
set_option maxRecDepth 100000 in
theorem kX9_feed_s {Γ : Cxt} {Q : Int32 → XT → YT → Prop} (O : Ok Γ RX9 cX9_feed 5 { frames := 1, cells := 0, slots := 0, locals := 22 }) (r : Ret Γ (some .int) (qI Q)) {I37 : Int64 → Int32 → XT → YT → Prop} (e37 : ∀ (a2 : Int64) (a4 : Int32) (X : XT) (Y : YT), I37 a2 a4 X Y → V Γ 37 [(0, .ref 0), (2, .long a2), (4, .int a4)] [] X Y) {p0 : Int32} {p1 : Int64} {X : XT} {Y : YT} (h : BX9_feed_s I37 Q p0 p1 X Y) : V Γ 0 [(0, .ref 0), (1, .int p0), (2, .long p1)] [] X Y := by
  refine v_iload_n O dX9_feed_0 rfl 1 rfl ?_
  refine v_iconst O dX9_feed_1 kc_1 ?_
  refine v_bipush O dX9_feed_2 kb_8 ?_
  refine v_callS (rm' := { frames := 0, cells := 0, slots := 0, locals := 0 }) (As := [.int p0, .int 1, .int 8]) (st := []) O dX9_feed_4 ci_X9_within ml_X9_81 ms_X9_within ⟨rfl, rfl, (by decide), (by decide)⟩ rfl (Nat.le_of_ble_eq_true rfl) rfl (mX9_within h) (k_I (fun r1 X2 Y3 h4 => ?_))
  refine v_if_ne (tgt := 14) O dX9_feed_7 (by decide) (fun g5 => ?_) (fun g5 => ?_)
  · refine v_aload_n O dX9_feed_14 rfl 0 rfl ?_
    refine v_get O dX9_feed_15 fo_X9_12 sh_0 rfl rfl ?_
    refine v_get O dX9_feed_18 fo_X9_89 sh_1 rfl rfl ?_
    refine v_iload_n O dX9_feed_21 rfl 1 rfl ?_
    refine v_iadd O dX9_feed_22 ?_
    refine v_bipush O dX9_feed_23 kb_120 ?_
    refine v_icmp_le (tgt := 32) O dX9_feed_25 (by decide) (fun g6 => ?_) (fun g6 => ?_)
    · refine v_iload_n O dX9_feed_32 rfl 1 rfl ?_
      refine v_iconst O dX9_feed_33 kc_1 ?_
      refine v_isub O dX9_feed_34 ?_
      refine v_topi (fun w7 hw8 => ?_)
      refine v_istore (lv' := [(4, .int w7), (0, .ref 0), (1, .int p0), (2, .long p1)]) O dX9_feed_35 (by decide) rfl ?_
      exact v_loc [1, 3, 0] rfl (e37 p1 w7 X2 Y3 (((h4.1 g5).1 g6) w7 hw8))
    · refine v_sipush O dX9_feed_28 ks_m1004 ?_
      exact v_iret O r dX9_feed_31 ⟨_, rfl, ((h4.1 g5).2 g6)⟩
  · refine v_sipush O dX9_feed_10 ks_m1002 ?_
    exact v_iret O r dX9_feed_13 ⟨_, rfl, (h4.2 g5)⟩
set_option maxRecDepth 100000 in
theorem mX9_feed {Γ : Cxt} {p0 : Int32} {p1 : Int64} {X : XT} {Y : YT} {Q : Int32 → XT → YT → Prop} (h : PX9_feed p0 p1 X Y Q) : MT Γ yX9_feed (.code yX9_feed cX9_feed 5 (some .int) :: wl) { frames := 1, cells := 0, slots := 0, locals := 22 } [.ref 0, .int p0, .long p1] X Y (qI Q) :=
  mt_of (by decide) (Nat.le_of_ble_eq_true rfl) (fun Γ _ O r => kX9_feed_s O r (fun _ _ _ _ g => g) (h (fun a2 a4 X Y => V Γ 37 [(0, .ref 0), (2, .long a2), (4, .int a4)] [] X Y) (fun _ _ _ _ g => kX9_feed_37 O r (fun _ _ _ _ g => g) g)))
theorem dX9_addName_0 : decode cX9_addName 0 = .ok (.aload_n 0, 1) := by decide +kernel
theorem dX9_addName_1 : decode cX9_addName 1 = .ok (.getfield 12, 3) := by decide +kernel
theorem dX9_addName_4 : decode cX9_addName 4 = .ok (.invokevirtual 292, 3) := by decide +kernel
theorem dX9_addName_7 : decode cX9_addName 7 = .ok (.ifCond .eq 15, 3) := by decide +kernel
theorem dX9_addName_10 : decode cX9_addName 10 = .ok (.aload_n 0, 1) := by decide +kernel
theorem dX9_addName_11 : decode cX9_addName 11 = .ok (.getfield 12, 3) := by decide +kernel
theorem dX9_addName_14 : decode cX9_addName 14 = .ok (.getfield 89, 3) := by decide +kernel
theorem dX9_addName_17 : decode cX9_addName 17 = .ok (.bipush 12, 2) := by decide +kernel
theorem dX9_addName_19 : decode cX9_addName 19 = .ok (.if_icmp .le 7, 3) := by decide +kernel
theorem dX9_addName_22 : decode cX9_addName 22 = .ok (.sipush (-1002), 3) := by decide +kernel
theorem dX9_addName_25 : decode cX9_addName 25 = .ok (.ireturn, 1) := by decide +kernel
theorem dX9_addName_26 : decode cX9_addName 26 = .ok (.aload_n 0, 1) := by decide +kernel
theorem dX9_addName_27 : decode cX9_addName 27 = .ok (.getfield 19, 3) := by decide +kernel
theorem dX9_addName_30 : decode cX9_addName 30 = .ok (.aload_n 0, 1) := by decide +kernel
theorem dX9_addName_31 : decode cX9_addName 31 = .ok (.getfield 12, 3) := by decide +kernel
theorem dX9_addName_34 : decode cX9_addName 34 = .ok (.iconst 0, 1) := by decide +kernel
theorem dX9_addName_35 : decode cX9_addName 35 = .ok (.aload_n 0, 1) := by decide +kernel
theorem dX9_addName_36 : decode cX9_addName 36 = .ok (.getfield 12, 3) := by decide +kernel
theorem dX9_addName_39 : decode cX9_addName 39 = .ok (.getfield 89, 3) := by decide +kernel
theorem dX9_addName_42 : decode cX9_addName 42 = .ok (.invokevirtual 296, 3) := by decide +kernel
theorem dX9_addName_45 : decode cX9_addName 45 = .ok (.iconst (-1), 1) := by decide +kernel
theorem dX9_addName_46 : decode cX9_addName 46 = .ok (.if_icmp .eq 7, 3) := by decide +kernel
theorem dX9_addName_49 : decode cX9_addName 49 = .ok (.sipush (-1003), 3) := by decide +kernel
theorem dX9_addName_52 : decode cX9_addName 52 = .ok (.ireturn, 1) := by decide +kernel
theorem dX9_addName_53 : decode cX9_addName 53 = .ok (.aload_n 0, 1) := by decide +kernel
theorem dX9_addName_54 : decode cX9_addName 54 = .ok (.getfield 19, 3) := by decide +kernel
theorem dX9_addName_57 : decode cX9_addName 57 = .ok (.getfield 132, 3) := by decide +kernel
theorem dX9_addName_60 : decode cX9_addName 60 = .ok (.bipush 10, 2) := by decide +kernel
theorem dX9_addName_62 : decode cX9_addName 62 = .ok (.if_icmp .lt 7, 3) := by decide +kernel
theorem dX9_addName_65 : decode cX9_addName 65 = .ok (.sipush (-1004), 3) := by decide +kernel
theorem dX9_addName_68 : decode cX9_addName 68 = .ok (.ireturn, 1) := by decide +kernel
theorem dX9_addName_69 : decode cX9_addName 69 = .ok (.aload_n 0, 1) := by decide +kernel
theorem dX9_addName_70 : decode cX9_addName 70 = .ok (.getfield 19, 3) := by decide +kernel
theorem dX9_addName_73 : decode cX9_addName 73 = .ok (.aload_n 0, 1) := by decide +kernel
theorem dX9_addName_74 : decode cX9_addName 74 = .ok (.getfield 12, 3) := by decide +kernel
theorem dX9_addName_77 : decode cX9_addName 77 = .ok (.invokevirtual 300, 3) := by decide +kernel
theorem dX9_addName_80 : decode cX9_addName 80 = .ok (.aload_n 0, 1) := by decide +kernel
theorem dX9_addName_81 : decode cX9_addName 81 = .ok (.getfield 19, 3) := by decide +kernel
theorem dX9_addName_84 : decode cX9_addName 84 = .ok (.getfield 132, 3) := by decide +kernel
theorem dX9_addName_87 : decode cX9_addName 87 = .ok (.iconst 1, 1) := by decide +kernel
theorem dX9_addName_88 : decode cX9_addName 88 = .ok (.isub, 1) := by decide +kernel
theorem dX9_addName_89 : decode cX9_addName 89 = .ok (.ireturn, 1) := by decide +kernel
def BX9_addName_s (Q : Int32 → XT → YT → Prop) (X : XT) (Y : YT) : Prop :=
  PX8_isRowOfLetters X Y (fun r1 X2 Y3 => ((r1 = 0 → Q (-1002) X2 Y3) ∧ (¬ r1 = 0 → (((X2 1 1) ≤ 12 → PX1_find 0 (X2 1 1) X2 Y3 (fun r7 X8 Y9 => ((r7 = (-1) → (((X8 3 9) < 10 → PX1_add X8 Y9 (fun X14 Y15 => Q ((X14 3 9) - 1) X14 Y15)) ∧ (¬ (X8 3 9) < 10 → Q (-1004) X8 Y9))) ∧ (¬ r7 = (-1) → Q (-1003) X8 Y9)))) ∧ (¬ (X2 1 1) ≤ 12 → Q (-1002) X2 Y3)))))
def PX9_addName (X : XT) (Y : YT) (Q : Int32 → XT → YT → Prop) : Prop :=  BX9_addName_s Q X Y
set_option maxHeartbeats 4000000 in
set_option maxRecDepth 100000 in
theorem kX9_addName_s {Γ : Cxt} {Q : Int32 → XT → YT → Prop} (O : Ok Γ RX9 cX9_addName 1 { frames := 5, cells := 0, slots := 0, locals := 108 }) (r : Ret Γ (some .int) (qI Q)) {X : XT} {Y : YT} (h : BX9_addName_s Q X Y) : V Γ 0 [(0, .ref 0)] [] X Y := by
  refine v_aload_n O dX9_addName_0 rfl 0 rfl ?_
  refine v_get O dX9_addName_1 fo_X9_12 sh_0 rfl rfl ?_
  refine v_callV (rm' := { frames := 3, cells := 0, slots := 0, locals := 65 }) (As := []) (st := []) O dX9_addName_4 ci_X8_isRowOfLetters ml_X9_292 mi_X8_isRowOfLetters sh_1 rfl ⟨rfl, rfl, (by decide), (by decide)⟩ rfl (Nat.le_of_ble_eq_true rfl) rfl (mX8_isRowOfLetters h) (k_I (fun r1 X2 Y3 h4 => ?_))
  refine v_if_eq (tgt := 22) O dX9_addName_7 (by decide) (fun g5 => ?_) (fun g5 => ?_)
  · refine v_sipush O dX9_addName_22 ks_m1002 ?_
    exact v_iret O r dX9_addName_25 ⟨_, rfl, (h4.1 g5)⟩
  · refine v_aload_n O dX9_addName_10 rfl 0 rfl ?_
    refine v_get O dX9_addName_11 fo_X9_12 sh_0 rfl rfl ?_
    refine v_get O dX9_addName_14 fo_X9_89 sh_1 rfl rfl ?_
    refine v_bipush O dX9_addName_17 kb_12 ?_
    refine v_icmp_le (tgt := 26) O dX9_addName_19 (by decide) (fun g6 => ?_) (fun g6 => ?_)
    · refine v_aload_n O dX9_addName_26 rfl 0 rfl ?_
      refine v_get O dX9_addName_27 fo_X9_19 sh_0 rfl rfl ?_
      refine v_aload_n O dX9_addName_30 rfl 0 rfl ?_
      refine v_get O dX9_addName_31 fo_X9_12 sh_0 rfl rfl ?_
      refine v_iconst O dX9_addName_34 kc_0 ?_
      refine v_aload_n O dX9_addName_35 rfl 0 rfl ?_
      refine v_get O dX9_addName_36 fo_X9_12 sh_0 rfl rfl ?_
      refine v_get O dX9_addName_39 fo_X9_89 sh_1 rfl rfl ?_
      refine v_callV (rm' := { frames := 2, cells := 0, slots := 0, locals := 45 }) (As := [.ref 1, .int 0, .int (X2 1 1)]) (st := []) O dX9_addName_42 ci_X1_find ml_X9_296 mi_X1_find sh_3 rfl ⟨rfl, rfl, (by decide), (by decide)⟩ rfl (Nat.le_of_ble_eq_true rfl) rfl (mX1_find ((h4.2 g5).1 g6)) (k_I (fun r7 X8 Y9 h10 => ?_))
      refine v_iconst O dX9_addName_45 kc_m1 ?_
      refine v_icmp_eq (tgt := 53) O dX9_addName_46 (by decide) (fun g11 => ?_) (fun g11 => ?_)
      · refine v_aload_n O dX9_addName_53 rfl 0 rfl ?_
        refine v_get O dX9_addName_54 fo_X9_19 sh_0 rfl rfl ?_
        refine v_get O dX9_addName_57 fo_X9_132 sh_3 rfl rfl ?_
        refine v_bipush O dX9_addName_60 kb_10 ?_
        refine v_icmp_lt (tgt := 69) O dX9_addName_62 (by decide) (fun g12 => ?_) (fun g12 => ?_)
        · refine v_aload_n O dX9_addName_69 rfl 0 rfl ?_
          refine v_get O dX9_addName_70 fo_X9_19 sh_0 rfl rfl ?_
          refine v_aload_n O dX9_addName_73 rfl 0 rfl ?_
          refine v_get O dX9_addName_74 fo_X9_12 sh_0 rfl rfl ?_
          refine v_callV (rm' := { frames := 4, cells := 0, slots := 0, locals := 85 }) (As := [.ref 1]) (st := []) O dX9_addName_77 ci_X1_add ml_X9_300 mi_X1_add sh_3 rfl ⟨rfl, rfl, (by decide), (by decide)⟩ rfl (Nat.le_of_ble_eq_true rfl) rfl (mX1_add ((h10.1 g11).1 g12)) (k_V (fun X14 Y15 h16 => ?_))
          refine v_aload_n O dX9_addName_80 rfl 0 rfl ?_
          refine v_get O dX9_addName_81 fo_X9_19 sh_0 rfl rfl ?_
          refine v_get O dX9_addName_84 fo_X9_132 sh_3 rfl rfl ?_
          refine v_iconst O dX9_addName_87 kc_1 ?_
          refine v_isub O dX9_addName_88 ?_
          exact v_iret O r dX9_addName_89 ⟨_, rfl, h16⟩
        · refine v_sipush O dX9_addName_65 ks_m1004 ?_
          exact v_iret O r dX9_addName_68 ⟨_, rfl, ((h10.1 g11).2 g12)⟩
      · refine v_sipush O dX9_addName_49 ks_m1003 ?_
        exact v_iret O r dX9_addName_52 ⟨_, rfl, (h10.2 g11)⟩
    · refine v_sipush O dX9_addName_22 ks_m1002 ?_
      exact v_iret O r dX9_addName_25 ⟨_, rfl, ((h4.2 g5).2 g6)⟩
set_option maxRecDepth 100000 in
theorem mX9_addName {Γ : Cxt} {X : XT} {Y : YT} {Q : Int32 → XT → YT → Prop} (h : PX9_addName X Y Q) : MT Γ yX9_addName (.code yX9_addName cX9_addName 1 (some .int) :: wl) { frames := 5, cells := 0, slots := 0, locals := 108 } [.ref 0] X Y (qI Q) :=
  mt_of (by decide) (Nat.le_of_ble_eq_true rfl) (fun Γ _ O r => kX9_addName_s O r  (h ))
theorem dX9_name_0 : decode cX9_name 0 = .ok (.aload_n 0, 1) := by decide +kernel
theorem dX9_name_1 : decode cX9_name 1 = .ok (.invokevirtual 96, 3) := by decide +kernel
theorem dX9_name_4 : decode cX9_name 4 = .ok (.istore_n 1, 1) := by decide +kernel
theorem dX9_name_5 : decode cX9_name 5 = .ok (.iload_n 1, 1) := by decide +kernel
theorem dX9_name_6 : decode cX9_name 6 = .ok (.sipush (-1004), 3) := by decide +kernel
theorem dX9_name_9 : decode cX9_name 9 = .ok (.if_icmp .eq 11, 3) := by decide +kernel
theorem dX9_name_12 : decode cX9_name 12 = .ok (.aload_n 0, 1) := by decide +kernel
theorem dX9_name_13 : decode cX9_name 13 = .ok (.getfield 12, 3) := by decide +kernel
theorem dX9_name_16 : decode cX9_name 16 = .ok (.iconst 0, 1) := by decide +kernel
theorem dX9_name_17 : decode cX9_name 17 = .ok (.putfield 89, 3) := by decide +kernel
theorem dX9_name_20 : decode cX9_name 20 = .ok (.iload_n 1, 1) := by decide +kernel
theorem dX9_name_21 : decode cX9_name 21 = .ok (.ireturn, 1) := by decide +kernel
def BX9_name_s (Q : Int32 → XT → YT → Prop) (X : XT) (Y : YT) : Prop :=
  PX9_addName X Y (fun r1 X2 Y3 => ((r1 = (-1004) → Q r1 X2 Y3) ∧ (¬ r1 = (-1004) → Q r1 (sX X2 1 1 0) Y3)))
def PX9_name (X : XT) (Y : YT) (Q : Int32 → XT → YT → Prop) : Prop :=  BX9_name_s Q X Y
set_option maxHeartbeats 4000000 in
set_option maxRecDepth 100000 in
theorem kX9_name_s {Γ : Cxt} {Q : Int32 → XT → YT → Prop} (O : Ok Γ RX9 cX9_name 2 { frames := 6, cells := 0, slots := 0, locals := 128 }) (r : Ret Γ (some .int) (qI Q)) {X : XT} {Y : YT} (h : BX9_name_s Q X Y) : V Γ 0 [(0, .ref 0)] [] X Y := by
  refine v_aload_n O dX9_name_0 rfl 0 rfl ?_
  refine v_callV (rm' := { frames := 5, cells := 0, slots := 0, locals := 108 }) (As := []) (st := []) O dX9_name_1 ci_X9_addName ml_X9_96 mi_X9_addName sh_0 rfl ⟨rfl, rfl, (by decide), (by decide)⟩ rfl (Nat.le_of_ble_eq_true rfl) rfl (mX9_addName h) (k_I (fun r1 X2 Y3 h4 => ?_))
  refine v_istore_n (lv' := [(1, .int r1), (0, .ref 0)]) O dX9_name_4 rfl (by decide) rfl ?_
  refine v_iload_n O dX9_name_5 rfl 0 rfl ?_
  refine v_sipush O dX9_name_6 ks_m1004 ?_
  refine v_icmp_eq (tgt := 20) O dX9_name_9 (by decide) (fun g5 => ?_) (fun g5 => ?_)
  · refine v_iload_n O dX9_name_20 rfl 0 rfl ?_
    exact v_iret O r dX9_name_21 ⟨_, rfl, (h4.1 g5)⟩
  · refine v_aload_n O dX9_name_12 rfl 1 rfl ?_
    refine v_get O dX9_name_13 fo_X9_12 sh_0 rfl rfl ?_
    refine v_iconst O dX9_name_16 kc_0 ?_
    refine v_putI O dX9_name_17 fo_X9_89 fp_8_1 sh_1 rfl rfl rfl ?_
    refine v_iload_n O dX9_name_20 rfl 0 rfl ?_
    exact v_iret O r dX9_name_21 ⟨_, rfl, (h4.2 g5)⟩
set_option maxRecDepth 100000 in
theorem mX9_name {Γ : Cxt} {X : XT} {Y : YT} {Q : Int32 → XT → YT → Prop} (h : PX9_name X Y Q) : MT Γ yX9_name (.code yX9_name cX9_name 2 (some .int) :: wl) { frames := 6, cells := 0, slots := 0, locals := 128 } [.ref 0] X Y (qI Q) :=
  mt_of (by decide) (Nat.le_of_ble_eq_true rfl) (fun Γ _ O r => kX9_name_s O r  (h ))
theorem dX9_offices_0 : decode cX9_offices 0 = .ok (.aload_n 0, 1) := by decide +kernel
theorem dX9_offices_1 : decode cX9_offices 1 = .ok (.getfield 19, 3) := by decide +kernel
theorem dX9_offices_4 : decode cX9_offices 4 = .ok (.iload_n 1, 1) := by decide +kernel
theorem dX9_offices_5 : decode cX9_offices 5 = .ok (.invokevirtual 100, 3) := by decide +kernel
theorem dX9_offices_8 : decode cX9_offices 8 = .ok (.ifCond .ne 7, 3) := by decide +kernel
theorem dX9_offices_11 : decode cX9_offices 11 = .ok (.sipush (-1001), 3) := by decide +kernel
theorem dX9_offices_14 : decode cX9_offices 14 = .ok (.ireturn, 1) := by decide +kernel
theorem dX9_offices_15 : decode cX9_offices 15 = .ok (.iload_n 2, 1) := by decide +kernel
theorem dX9_offices_16 : decode cX9_offices 16 = .ok (.iconst 0, 1) := by decide +kernel
theorem dX9_offices_17 : decode cX9_offices 17 = .ok (.iconst 4, 1) := by decide +kernel
theorem dX9_offices_18 : decode cX9_offices 18 = .ok (.invokestatic 104, 3) := by decide +kernel
theorem dX9_offices_21 : decode cX9_offices 21 = .ok (.invokestatic 81, 3) := by decide +kernel
theorem dX9_offices_24 : decode cX9_offices 24 = .ok (.ifCond .ne 7, 3) := by decide +kernel
theorem dX9_offices_27 : decode cX9_offices 27 = .ok (.sipush (-1002), 3) := by decide +kernel
theorem dX9_offices_30 : decode cX9_offices 30 = .ok (.ireturn, 1) := by decide +kernel
theorem dX9_offices_31 : decode cX9_offices 31 = .ok (.aload_n 0, 1) := by decide +kernel
theorem dX9_offices_32 : decode cX9_offices 32 = .ok (.getfield 19, 3) := by decide +kernel
theorem dX9_offices_35 : decode cX9_offices 35 = .ok (.getfield 108, 3) := by decide +kernel
theorem dX9_offices_38 : decode cX9_offices 38 = .ok (.iload_n 1, 1) := by decide +kernel
theorem dX9_offices_39 : decode cX9_offices 39 = .ok (.iaload, 1) := by decide +kernel
theorem dX9_offices_40 : decode cX9_offices 40 = .ok (.istore_n 3, 1) := by decide +kernel
theorem dX9_offices_41 : decode cX9_offices 41 = .ok (.aload_n 0, 1) := by decide +kernel
theorem dX9_offices_42 : decode cX9_offices 42 = .ok (.getfield 19, 3) := by decide +kernel
theorem dX9_offices_45 : decode cX9_offices 45 = .ok (.getfield 108, 3) := by decide +kernel
theorem dX9_offices_48 : decode cX9_offices 48 = .ok (.iload_n 1, 1) := by decide +kernel
theorem dX9_offices_49 : decode cX9_offices 49 = .ok (.iload_n 2, 1) := by decide +kernel
theorem dX9_offices_50 : decode cX9_offices 50 = .ok (.iastore, 1) := by decide +kernel
theorem dX9_offices_51 : decode cX9_offices 51 = .ok (.iload_n 3, 1) := by decide +kernel
theorem dX9_offices_52 : decode cX9_offices 52 = .ok (.ireturn, 1) := by decide +kernel
def BX9_offices_s (Q : Int32 → XT → YT → Prop) (p0 : Int32) (p1 : Int32) (X : XT) (Y : YT) : Prop :=
  PX1_isKnown p0 X Y (fun r1 X2 Y3 => ((¬ r1 = 0 → PX9_allBelow 4 X2 Y3 (fun r6 X7 Y8 => PX9_within p1 0 r6 X7 Y8 (fun r10 X11 Y12 => ((¬ r10 = 0 → vp_in p0 10 ∧ ∀ w15 : Int32, w15 = (X11 8 p0.toNatClampNeg) → vp_in p0 10 ∧ Q w15 (sX X11 8 p0.toNatClampNeg p1) Y12) ∧ (r10 = 0 → Q (-1002) X11 Y12))))) ∧ (r1 = 0 → Q (-1001) X2 Y3)))
def PX9_offices (p0 : Int32) (p1 : Int32) (X : XT) (Y : YT) (Q : Int32 → XT → YT → Prop) : Prop :=  BX9_offices_s Q p0 p1 X Y
set_option maxHeartbeats 4000000 in
set_option maxRecDepth 100000 in
theorem kX9_offices_s {Γ : Cxt} {Q : Int32 → XT → YT → Prop} (O : Ok Γ RX9 cX9_offices 4 { frames := 2, cells := 0, slots := 0, locals := 43 }) (r : Ret Γ (some .int) (qI Q)) {p0 : Int32} {p1 : Int32} {X : XT} {Y : YT} (h : BX9_offices_s Q p0 p1 X Y) : V Γ 0 [(0, .ref 0), (1, .int p0), (2, .int p1)] [] X Y := by
  refine v_aload_n O dX9_offices_0 rfl 0 rfl ?_
  refine v_get O dX9_offices_1 fo_X9_19 sh_0 rfl rfl ?_
  refine v_iload_n O dX9_offices_4 rfl 1 rfl ?_
  refine v_callV (rm' := { frames := 1, cells := 0, slots := 0, locals := 22 }) (As := [.int p0]) (st := []) O dX9_offices_5 ci_X1_isKnown ml_X9_100 mi_X1_isKnown sh_3 rfl ⟨rfl, rfl, (by decide), (by decide)⟩ rfl (Nat.le_of_ble_eq_true rfl) rfl (mX1_isKnown h) (k_I (fun r1 X2 Y3 h4 => ?_))
  refine v_if_ne (tgt := 15) O dX9_offices_8 (by decide) (fun g5 => ?_) (fun g5 => ?_)
  · refine v_iload_n O dX9_offices_15 rfl 2 rfl ?_
    refine v_iconst O dX9_offices_16 kc_0 ?_
    refine v_iconst O dX9_offices_17 kc_4 ?_
    refine v_callS (rm' := { frames := 0, cells := 0, slots := 0, locals := 0 }) (As := [.int 4]) (st := [.int 0, .int p1]) O dX9_offices_18 ci_X9_allBelow ml_X9_104 ms_X9_allBelow ⟨rfl, rfl, (by decide), (by decide)⟩ rfl (Nat.le_of_ble_eq_true rfl) rfl (mX9_allBelow (h4.1 g5)) (k_I (fun r6 X7 Y8 h9 => ?_))
    refine v_callS (rm' := { frames := 0, cells := 0, slots := 0, locals := 0 }) (As := [.int p1, .int 0, .int r6]) (st := []) O dX9_offices_21 ci_X9_within ml_X9_81 ms_X9_within ⟨rfl, rfl, (by decide), (by decide)⟩ rfl (Nat.le_of_ble_eq_true rfl) rfl (mX9_within h9) (k_I (fun r10 X11 Y12 h13 => ?_))
    refine v_if_ne (tgt := 31) O dX9_offices_24 (by decide) (fun g14 => ?_) (fun g14 => ?_)
    · refine v_aload_n O dX9_offices_31 rfl 0 rfl ?_
      refine v_get O dX9_offices_32 fo_X9_19 sh_0 rfl rfl ?_
      refine v_get O dX9_offices_35 fo_X9_108 sh_3 rfl rfl ?_
      refine v_iload_n O dX9_offices_38 rfl 1 rfl ?_
      refine v_iald O dX9_offices_39 sh_8 (h13.1 g14).1 ?_
      refine v_topi (fun w15 hw16 => ?_)
      refine v_istore_n (lv' := [(3, .int w15), (0, .ref 0), (1, .int p0), (2, .int p1)]) O dX9_offices_40 rfl (by decide) rfl ?_
      refine v_aload_n O dX9_offices_41 rfl 1 rfl ?_
      refine v_get O dX9_offices_42 fo_X9_19 sh_0 rfl rfl ?_
      refine v_get O dX9_offices_45 fo_X9_108 sh_3 rfl rfl ?_
      refine v_iload_n O dX9_offices_48 rfl 2 rfl ?_
      refine v_iload_n O dX9_offices_49 rfl 3 rfl ?_
      refine v_iast O dX9_offices_50 sh_8 ((h13.1 g14).2 w15 hw16).1 ?_
      refine v_iload_n O dX9_offices_51 rfl 0 rfl ?_
      exact v_iret O r dX9_offices_52 ⟨_, rfl, ((h13.1 g14).2 w15 hw16).2⟩
    · refine v_sipush O dX9_offices_27 ks_m1002 ?_
      exact v_iret O r dX9_offices_30 ⟨_, rfl, (h13.2 g14)⟩
  · refine v_sipush O dX9_offices_11 ks_m1001 ?_
    exact v_iret O r dX9_offices_14 ⟨_, rfl, (h4.2 g5)⟩
set_option maxRecDepth 100000 in
theorem mX9_offices {Γ : Cxt} {p0 : Int32} {p1 : Int32} {X : XT} {Y : YT} {Q : Int32 → XT → YT → Prop} (h : PX9_offices p0 p1 X Y Q) : MT Γ yX9_offices (.code yX9_offices cX9_offices 4 (some .int) :: wl) { frames := 2, cells := 0, slots := 0, locals := 43 } [.ref 0, .int p0, .int p1] X Y (qI Q) :=
  mt_of (by decide) (Nat.le_of_ble_eq_true rfl) (fun Γ _ O r => kX9_offices_s O r  (h ))
theorem dX9_there_0 : decode cX9_there 0 = .ok (.aload_n 0, 1) := by decide +kernel
theorem dX9_there_1 : decode cX9_there 1 = .ok (.getfield 19, 3) := by decide +kernel
theorem dX9_there_4 : decode cX9_there 4 = .ok (.iload_n 1, 1) := by decide +kernel
theorem dX9_there_5 : decode cX9_there 5 = .ok (.invokevirtual 100, 3) := by decide +kernel
theorem dX9_there_8 : decode cX9_there 8 = .ok (.ifCond .ne 7, 3) := by decide +kernel
theorem dX9_there_11 : decode cX9_there 11 = .ok (.sipush (-1001), 3) := by decide +kernel
theorem dX9_there_14 : decode cX9_there 14 = .ok (.ireturn, 1) := by decide +kernel
theorem dX9_there_15 : decode cX9_there 15 = .ok (.iload_n 2, 1) := by decide +kernel
theorem dX9_there_16 : decode cX9_there 16 = .ok (.iconst 0, 1) := by decide +kernel
theorem dX9_there_17 : decode cX9_there 17 = .ok (.bipush 99, 2) := by decide +kernel
theorem dX9_there_19 : decode cX9_there 19 = .ok (.invokestatic 81, 3) := by decide +kernel
theorem dX9_there_22 : decode cX9_there 22 = .ok (.ifCond .eq 13, 3) := by decide +kernel
theorem dX9_there_25 : decode cX9_there 25 = .ok (.iload_n 3, 1) := by decide +kernel
theorem dX9_there_26 : decode cX9_there 26 = .ok (.iload_n 2, 1) := by decide +kernel
theorem dX9_there_27 : decode cX9_there 27 = .ok (.bipush 99, 2) := by decide +kernel
theorem dX9_there_29 : decode cX9_there 29 = .ok (.invokestatic 81, 3) := by decide +kernel
theorem dX9_there_32 : decode cX9_there 32 = .ok (.ifCond .ne 7, 3) := by decide +kernel
theorem dX9_there_35 : decode cX9_there 35 = .ok (.sipush (-1002), 3) := by decide +kernel
theorem dX9_there_38 : decode cX9_there 38 = .ok (.ireturn, 1) := by decide +kernel
theorem dX9_there_39 : decode cX9_there 39 = .ok (.aload_n 0, 1) := by decide +kernel
theorem dX9_there_40 : decode cX9_there 40 = .ok (.getfield 19, 3) := by decide +kernel
theorem dX9_there_43 : decode cX9_there 43 = .ok (.getfield 112, 3) := by decide +kernel
theorem dX9_there_46 : decode cX9_there 46 = .ok (.iload_n 1, 1) := by decide +kernel
theorem dX9_there_47 : decode cX9_there 47 = .ok (.iaload, 1) := by decide +kernel
theorem dX9_there_48 : decode cX9_there 48 = .ok (.aload_n 0, 1) := by decide +kernel
theorem dX9_there_49 : decode cX9_there 49 = .ok (.getfield 19, 3) := by decide +kernel
theorem dX9_there_52 : decode cX9_there 52 = .ok (.getfield 115, 3) := by decide +kernel
theorem dX9_there_55 : decode cX9_there 55 = .ok (.iload_n 1, 1) := by decide +kernel
theorem dX9_there_56 : decode cX9_there 56 = .ok (.iaload, 1) := by decide +kernel
theorem dX9_there_57 : decode cX9_there 57 = .ok (.isub, 1) := by decide +kernel
theorem dX9_there_58 : decode cX9_there 58 = .ok (.iconst 1, 1) := by decide +kernel
theorem dX9_there_59 : decode cX9_there 59 = .ok (.iadd, 1) := by decide +kernel
theorem dX9_there_60 : decode cX9_there 60 = .ok (.istore 4, 2) := by decide +kernel
theorem dX9_there_62 : decode cX9_there 62 = .ok (.aload_n 0, 1) := by decide +kernel
theorem dX9_there_63 : decode cX9_there 63 = .ok (.getfield 19, 3) := by decide +kernel
theorem dX9_there_66 : decode cX9_there 66 = .ok (.getfield 115, 3) := by decide +kernel
theorem dX9_there_69 : decode cX9_there 69 = .ok (.iload_n 1, 1) := by decide +kernel
theorem dX9_there_70 : decode cX9_there 70 = .ok (.iload_n 2, 1) := by decide +kernel
theorem dX9_there_71 : decode cX9_there 71 = .ok (.iastore, 1) := by decide +kernel
theorem dX9_there_72 : decode cX9_there 72 = .ok (.aload_n 0, 1) := by decide +kernel
theorem dX9_there_73 : decode cX9_there 73 = .ok (.getfield 19, 3) := by decide +kernel
theorem dX9_there_76 : decode cX9_there 76 = .ok (.getfield 112, 3) := by decide +kernel
theorem dX9_there_79 : decode cX9_there 79 = .ok (.iload_n 1, 1) := by decide +kernel
theorem dX9_there_80 : decode cX9_there 80 = .ok (.iload_n 3, 1) := by decide +kernel
theorem dX9_there_81 : decode cX9_there 81 = .ok (.iastore, 1) := by decide +kernel
theorem dX9_there_82 : decode cX9_there 82 = .ok (.iload 4, 2) := by decide +kernel
theorem dX9_there_84 : decode cX9_there 84 = .ok (.ireturn, 1) := by decide +kernel
def BX9_there_s (Q : Int32 → XT → YT → Prop) (p0 : Int32) (p1 : Int32) (p2 : Int32) (X : XT) (Y : YT) : Prop :=
  PX1_isKnown p0 X Y (fun r1 X2 Y3 => ((¬ r1 = 0 → PX9_within p1 0 99 X2 Y3 (fun r6 X7 Y8 => ((r6 = 0 → Q (-1002) X7 Y8) ∧ (¬ r6 = 0 → PX9_within p2 p1 99 X7 Y8 (fun r11 X12 Y13 => ((¬ r11 = 0 → vp_in p0 10 ∧ vp_in p0 10 ∧ ∀ w16 : Int32, w16 = (((X12 10 p0.toNatClampNeg) - (X12 9 p0.toNatClampNeg)) + 1) → vp_in p0 10 ∧ vp_in p0 10 ∧ ∀ X18 : XT, X18 = sX (sX X12 9 p0.toNatClampNeg p1) 10 p0.toNatClampNeg p2 → Q w16 X18 Y13) ∧ (r11 = 0 → Q (-1002) X12 Y13))))))) ∧ (r1 = 0 → Q (-1001) X2 Y3)))
def PX9_there (p0 : Int32) (p1 : Int32) (p2 : Int32) (X : XT) (Y : YT) (Q : Int32 → XT → YT → Prop) : Prop :=  BX9_there_s Q p0 p1 p2 X Y
set_option maxHeartbeats 4000000 in
set_option maxRecDepth 100000 in
theorem kX9_there_s {Γ : Cxt} {Q : Int32 → XT → YT → Prop} (O : Ok Γ RX9 cX9_there 5 { frames := 2, cells := 0, slots := 0, locals := 43 }) (r : Ret Γ (some .int) (qI Q)) {p0 : Int32} {p1 : Int32} {p2 : Int32} {X : XT} {Y : YT} (h : BX9_there_s Q p0 p1 p2 X Y) : V Γ 0 [(0, .ref 0), (1, .int p0), (2, .int p1), (3, .int p2)] [] X Y := by
  refine v_aload_n O dX9_there_0 rfl 0 rfl ?_
  refine v_get O dX9_there_1 fo_X9_19 sh_0 rfl rfl ?_
  refine v_iload_n O dX9_there_4 rfl 1 rfl ?_
  refine v_callV (rm' := { frames := 1, cells := 0, slots := 0, locals := 22 }) (As := [.int p0]) (st := []) O dX9_there_5 ci_X1_isKnown ml_X9_100 mi_X1_isKnown sh_3 rfl ⟨rfl, rfl, (by decide), (by decide)⟩ rfl (Nat.le_of_ble_eq_true rfl) rfl (mX1_isKnown h) (k_I (fun r1 X2 Y3 h4 => ?_))
  refine v_if_ne (tgt := 15) O dX9_there_8 (by decide) (fun g5 => ?_) (fun g5 => ?_)
  · refine v_iload_n O dX9_there_15 rfl 2 rfl ?_
    refine v_iconst O dX9_there_16 kc_0 ?_
    refine v_bipush O dX9_there_17 kb_99 ?_
    refine v_callS (rm' := { frames := 0, cells := 0, slots := 0, locals := 0 }) (As := [.int p1, .int 0, .int 99]) (st := []) O dX9_there_19 ci_X9_within ml_X9_81 ms_X9_within ⟨rfl, rfl, (by decide), (by decide)⟩ rfl (Nat.le_of_ble_eq_true rfl) rfl (mX9_within (h4.1 g5)) (k_I (fun r6 X7 Y8 h9 => ?_))
    refine v_if_eq (tgt := 35) O dX9_there_22 (by decide) (fun g10 => ?_) (fun g10 => ?_)
    · refine v_sipush O dX9_there_35 ks_m1002 ?_
      exact v_iret O r dX9_there_38 ⟨_, rfl, (h9.1 g10)⟩
    · refine v_iload_n O dX9_there_25 rfl 3 rfl ?_
      refine v_iload_n O dX9_there_26 rfl 2 rfl ?_
      refine v_bipush O dX9_there_27 kb_99 ?_
      refine v_callS (rm' := { frames := 0, cells := 0, slots := 0, locals := 0 }) (As := [.int p2, .int p1, .int 99]) (st := []) O dX9_there_29 ci_X9_within ml_X9_81 ms_X9_within ⟨rfl, rfl, (by decide), (by decide)⟩ rfl (Nat.le_of_ble_eq_true rfl) rfl (mX9_within (h9.2 g10)) (k_I (fun r11 X12 Y13 h14 => ?_))
      refine v_if_ne (tgt := 39) O dX9_there_32 (by decide) (fun g15 => ?_) (fun g15 => ?_)
      · refine v_aload_n O dX9_there_39 rfl 0 rfl ?_
        refine v_get O dX9_there_40 fo_X9_19 sh_0 rfl rfl ?_
        refine v_get O dX9_there_43 fo_X9_112 sh_3 rfl rfl ?_
        refine v_iload_n O dX9_there_46 rfl 1 rfl ?_
        refine v_iald O dX9_there_47 sh_10 (h14.1 g15).1 ?_
        refine v_aload_n O dX9_there_48 rfl 0 rfl ?_
        refine v_get O dX9_there_49 fo_X9_19 sh_0 rfl rfl ?_
        refine v_get O dX9_there_52 fo_X9_115 sh_3 rfl rfl ?_
        refine v_iload_n O dX9_there_55 rfl 1 rfl ?_
        refine v_iald O dX9_there_56 sh_9 (h14.1 g15).2.1 ?_
        refine v_isub O dX9_there_57 ?_
        refine v_iconst O dX9_there_58 kc_1 ?_
        refine v_iadd O dX9_there_59 ?_
        refine v_topi (fun w16 hw17 => ?_)
        refine v_istore (lv' := [(4, .int w16), (0, .ref 0), (1, .int p0), (2, .int p1), (3, .int p2)]) O dX9_there_60 (by decide) rfl ?_
        refine v_aload_n O dX9_there_62 rfl 1 rfl ?_
        refine v_get O dX9_there_63 fo_X9_19 sh_0 rfl rfl ?_
        refine v_get O dX9_there_66 fo_X9_115 sh_3 rfl rfl ?_
        refine v_iload_n O dX9_there_69 rfl 2 rfl ?_
        refine v_iload_n O dX9_there_70 rfl 3 rfl ?_
        refine v_iast O dX9_there_71 sh_9 ((h14.1 g15).2.2 w16 hw17).1 ?_
        refine v_aload_n O dX9_there_72 rfl 1 rfl ?_
        refine v_get O dX9_there_73 fo_X9_19 sh_0 rfl rfl ?_
        refine v_get O dX9_there_76 fo_X9_112 sh_3 rfl rfl ?_
        refine v_iload_n O dX9_there_79 rfl 2 rfl ?_
        refine v_iload_n O dX9_there_80 rfl 4 rfl ?_
        refine v_iast O dX9_there_81 sh_10 ((h14.1 g15).2.2 w16 hw17).2.1 ?_
        refine v_nmX (fun X18 hX19 => ?_)
        refine v_iload O dX9_there_82 0 rfl ?_
        exact v_iret O r dX9_there_84 ⟨_, rfl, (((h14.1 g15).2.2 w16 hw17).2.2 X18 hX19)⟩
      · refine v_sipush O dX9_there_35 ks_m1002 ?_
        exact v_iret O r dX9_there_38 ⟨_, rfl, (h14.2 g15)⟩
  · refine v_sipush O dX9_there_11 ks_m1001 ?_
    exact v_iret O r dX9_there_14 ⟨_, rfl, (h4.2 g5)⟩
set_option maxRecDepth 100000 in
theorem mX9_there {Γ : Cxt} {p0 : Int32} {p1 : Int32} {p2 : Int32} {X : XT} {Y : YT} {Q : Int32 → XT → YT → Prop} (h : PX9_there p0 p1 p2 X Y Q) : MT Γ yX9_there (.code yX9_there cX9_there 5 (some .int) :: wl) { frames := 2, cells := 0, slots := 0, locals := 43 } [.ref 0, .int p0, .int p1, .int p2] X Y (qI Q) :=
  mt_of (by decide) (Nat.le_of_ble_eq_true rfl) (fun Γ _ O r => kX9_there_s O r  (h ))
theorem dX9_weight_0 : decode cX9_weight 0 = .ok (.aload_n 0, 1) := by decide +kernel
theorem dX9_weight_1 : decode cX9_weight 1 = .ok (.getfield 19, 3) := by decide +kernel
theorem dX9_weight_4 : decode cX9_weight 4 = .ok (.iload_n 1, 1) := by decide +kernel
theorem dX9_weight_5 : decode cX9_weight 5 = .ok (.invokevirtual 100, 3) := by decide +kernel
theorem dX9_weight_8 : decode cX9_weight 8 = .ok (.ifCond .ne 7, 3) := by decide +kernel
theorem dX9_weight_11 : decode cX9_weight 11 = .ok (.sipush (-1001), 3) := by decide +kernel
theorem dX9_weight_14 : decode cX9_weight 14 = .ok (.ireturn, 1) := by decide +kernel
theorem dX9_weight_15 : decode cX9_weight 15 = .ok (.iload_n 2, 1) := by decide +kernel
theorem dX9_weight_16 : decode cX9_weight 16 = .ok (.iconst 1, 1) := by decide +kernel
theorem dX9_weight_17 : decode cX9_weight 17 = .ok (.bipush 9, 2) := by decide +kernel
theorem dX9_weight_19 : decode cX9_weight 19 = .ok (.invokestatic 81, 3) := by decide +kernel
theorem dX9_weight_22 : decode cX9_weight 22 = .ok (.ifCond .ne 7, 3) := by decide +kernel
theorem dX9_weight_25 : decode cX9_weight 25 = .ok (.sipush (-1002), 3) := by decide +kernel
theorem dX9_weight_28 : decode cX9_weight 28 = .ok (.ireturn, 1) := by decide +kernel
theorem dX9_weight_29 : decode cX9_weight 29 = .ok (.aload_n 0, 1) := by decide +kernel
theorem dX9_weight_30 : decode cX9_weight 30 = .ok (.getfield 19, 3) := by decide +kernel
theorem dX9_weight_33 : decode cX9_weight 33 = .ok (.getfield 118, 3) := by decide +kernel
theorem dX9_weight_36 : decode cX9_weight 36 = .ok (.iload_n 1, 1) := by decide +kernel
theorem dX9_weight_37 : decode cX9_weight 37 = .ok (.iaload, 1) := by decide +kernel
theorem dX9_weight_38 : decode cX9_weight 38 = .ok (.istore_n 3, 1) := by decide +kernel
theorem dX9_weight_39 : decode cX9_weight 39 = .ok (.aload_n 0, 1) := by decide +kernel
theorem dX9_weight_40 : decode cX9_weight 40 = .ok (.getfield 19, 3) := by decide +kernel
theorem dX9_weight_43 : decode cX9_weight 43 = .ok (.getfield 118, 3) := by decide +kernel
theorem dX9_weight_46 : decode cX9_weight 46 = .ok (.iload_n 1, 1) := by decide +kernel
theorem dX9_weight_47 : decode cX9_weight 47 = .ok (.iload_n 2, 1) := by decide +kernel
theorem dX9_weight_48 : decode cX9_weight 48 = .ok (.iastore, 1) := by decide +kernel
theorem dX9_weight_49 : decode cX9_weight 49 = .ok (.iload_n 3, 1) := by decide +kernel
theorem dX9_weight_50 : decode cX9_weight 50 = .ok (.ireturn, 1) := by decide +kernel
def BX9_weight_s (Q : Int32 → XT → YT → Prop) (p0 : Int32) (p1 : Int32) (X : XT) (Y : YT) : Prop :=
  PX1_isKnown p0 X Y (fun r1 X2 Y3 => ((¬ r1 = 0 → PX9_within p1 1 9 X2 Y3 (fun r6 X7 Y8 => ((¬ r6 = 0 → vp_in p0 10 ∧ ∀ w11 : Int32, w11 = (X7 11 p0.toNatClampNeg) → vp_in p0 10 ∧ Q w11 (sX X7 11 p0.toNatClampNeg p1) Y8) ∧ (r6 = 0 → Q (-1002) X7 Y8)))) ∧ (r1 = 0 → Q (-1001) X2 Y3)))
def PX9_weight (p0 : Int32) (p1 : Int32) (X : XT) (Y : YT) (Q : Int32 → XT → YT → Prop) : Prop :=  BX9_weight_s Q p0 p1 X Y
set_option maxHeartbeats 4000000 in
set_option maxRecDepth 100000 in
theorem kX9_weight_s {Γ : Cxt} {Q : Int32 → XT → YT → Prop} (O : Ok Γ RX9 cX9_weight 4 { frames := 2, cells := 0, slots := 0, locals := 43 }) (r : Ret Γ (some .int) (qI Q)) {p0 : Int32} {p1 : Int32} {X : XT} {Y : YT} (h : BX9_weight_s Q p0 p1 X Y) : V Γ 0 [(0, .ref 0), (1, .int p0), (2, .int p1)] [] X Y := by
  refine v_aload_n O dX9_weight_0 rfl 0 rfl ?_
  refine v_get O dX9_weight_1 fo_X9_19 sh_0 rfl rfl ?_
  refine v_iload_n O dX9_weight_4 rfl 1 rfl ?_
  refine v_callV (rm' := { frames := 1, cells := 0, slots := 0, locals := 22 }) (As := [.int p0]) (st := []) O dX9_weight_5 ci_X1_isKnown ml_X9_100 mi_X1_isKnown sh_3 rfl ⟨rfl, rfl, (by decide), (by decide)⟩ rfl (Nat.le_of_ble_eq_true rfl) rfl (mX1_isKnown h) (k_I (fun r1 X2 Y3 h4 => ?_))
  refine v_if_ne (tgt := 15) O dX9_weight_8 (by decide) (fun g5 => ?_) (fun g5 => ?_)
  · refine v_iload_n O dX9_weight_15 rfl 2 rfl ?_
    refine v_iconst O dX9_weight_16 kc_1 ?_
    refine v_bipush O dX9_weight_17 kb_9 ?_
    refine v_callS (rm' := { frames := 0, cells := 0, slots := 0, locals := 0 }) (As := [.int p1, .int 1, .int 9]) (st := []) O dX9_weight_19 ci_X9_within ml_X9_81 ms_X9_within ⟨rfl, rfl, (by decide), (by decide)⟩ rfl (Nat.le_of_ble_eq_true rfl) rfl (mX9_within (h4.1 g5)) (k_I (fun r6 X7 Y8 h9 => ?_))
    refine v_if_ne (tgt := 29) O dX9_weight_22 (by decide) (fun g10 => ?_) (fun g10 => ?_)
    · refine v_aload_n O dX9_weight_29 rfl 0 rfl ?_
      refine v_get O dX9_weight_30 fo_X9_19 sh_0 rfl rfl ?_
      refine v_get O dX9_weight_33 fo_X9_118 sh_3 rfl rfl ?_
      refine v_iload_n O dX9_weight_36 rfl 1 rfl ?_
      refine v_iald O dX9_weight_37 sh_11 (h9.1 g10).1 ?_
      refine v_topi (fun w11 hw12 => ?_)
      refine v_istore_n (lv' := [(3, .int w11), (0, .ref 0), (1, .int p0), (2, .int p1)]) O dX9_weight_38 rfl (by decide) rfl ?_
      refine v_aload_n O dX9_weight_39 rfl 1 rfl ?_
      refine v_get O dX9_weight_40 fo_X9_19 sh_0 rfl rfl ?_
      refine v_get O dX9_weight_43 fo_X9_118 sh_3 rfl rfl ?_
      refine v_iload_n O dX9_weight_46 rfl 2 rfl ?_
      refine v_iload_n O dX9_weight_47 rfl 3 rfl ?_
      refine v_iast O dX9_weight_48 sh_11 ((h9.1 g10).2 w11 hw12).1 ?_
      refine v_iload_n O dX9_weight_49 rfl 0 rfl ?_
      exact v_iret O r dX9_weight_50 ⟨_, rfl, ((h9.1 g10).2 w11 hw12).2⟩
    · refine v_sipush O dX9_weight_25 ks_m1002 ?_
      exact v_iret O r dX9_weight_28 ⟨_, rfl, (h9.2 g10)⟩
  · refine v_sipush O dX9_weight_11 ks_m1001 ?_
    exact v_iret O r dX9_weight_14 ⟨_, rfl, (h4.2 g5)⟩
set_option maxRecDepth 100000 in
theorem mX9_weight {Γ : Cxt} {p0 : Int32} {p1 : Int32} {X : XT} {Y : YT} {Q : Int32 → XT → YT → Prop} (h : PX9_weight p0 p1 X Y Q) : MT Γ yX9_weight (.code yX9_weight cX9_weight 4 (some .int) :: wl) { frames := 2, cells := 0, slots := 0, locals := 43 } [.ref 0, .int p0, .int p1] X Y (qI Q) :=
  mt_of (by decide) (Nat.le_of_ble_eq_true rfl) (fun Γ _ O r => kX9_weight_s O r  (h ))
theorem dX9_never_0 : decode cX9_never 0 = .ok (.aload_n 0, 1) := by decide +kernel
theorem dX9_never_1 : decode cX9_never 1 = .ok (.getfield 19, 3) := by decide +kernel
theorem dX9_never_4 : decode cX9_never 4 = .ok (.iload_n 1, 1) := by decide +kernel
theorem dX9_never_5 : decode cX9_never 5 = .ok (.invokevirtual 100, 3) := by decide +kernel
theorem dX9_never_8 : decode cX9_never 8 = .ok (.ifCond .eq 19, 3) := by decide +kernel
theorem dX9_never_11 : decode cX9_never 11 = .ok (.aload_n 0, 1) := by decide +kernel
theorem dX9_never_12 : decode cX9_never 12 = .ok (.getfield 19, 3) := by decide +kernel
theorem dX9_never_15 : decode cX9_never 15 = .ok (.iload_n 2, 1) := by decide +kernel
theorem dX9_never_16 : decode cX9_never 16 = .ok (.invokevirtual 100, 3) := by decide +kernel
theorem dX9_never_19 : decode cX9_never 19 = .ok (.ifCond .eq 8, 3) := by decide +kernel
theorem dX9_never_22 : decode cX9_never 22 = .ok (.iload_n 1, 1) := by decide +kernel
theorem dX9_never_23 : decode cX9_never 23 = .ok (.iload_n 2, 1) := by decide +kernel
theorem dX9_never_24 : decode cX9_never 24 = .ok (.if_icmp .ne 7, 3) := by decide +kernel
theorem dX9_never_27 : decode cX9_never 27 = .ok (.sipush (-1001), 3) := by decide +kernel
theorem dX9_never_30 : decode cX9_never 30 = .ok (.ireturn, 1) := by decide +kernel
theorem dX9_never_31 : decode cX9_never 31 = .ok (.aload_n 0, 1) := by decide +kernel
theorem dX9_never_32 : decode cX9_never 32 = .ok (.getfield 19, 3) := by decide +kernel
theorem dX9_never_35 : decode cX9_never 35 = .ok (.iload_n 1, 1) := by decide +kernel
theorem dX9_never_36 : decode cX9_never 36 = .ok (.iload_n 2, 1) := by decide +kernel
theorem dX9_never_37 : decode cX9_never 37 = .ok (.iload_n 3, 1) := by decide +kernel
theorem dX9_never_38 : decode cX9_never 38 = .ok (.invokevirtual 121, 3) := by decide +kernel
theorem dX9_never_41 : decode cX9_never 41 = .ok (.ifCond .eq 7, 3) := by decide +kernel
theorem dX9_never_44 : decode cX9_never 44 = .ok (.iconst 1, 1) := by decide +kernel
theorem dX9_never_45 : decode cX9_never 45 = .ok (.goto 4, 3) := by decide +kernel
theorem dX9_never_48 : decode cX9_never 48 = .ok (.iconst 0, 1) := by decide +kernel
theorem dX9_never_49 : decode cX9_never 49 = .ok (.ireturn, 1) := by decide +kernel
def BX9_never_s (Q : Int32 → XT → YT → Prop) (p0 : Int32) (p1 : Int32) (p2 : Int32) (X : XT) (Y : YT) : Prop :=
  PX1_isKnown p0 X Y (fun r1 X2 Y3 => ((r1 = 0 → Q (-1001) X2 Y3) ∧ (¬ r1 = 0 → PX1_isKnown p1 X2 Y3 (fun r6 X7 Y8 => ((r6 = 0 → Q (-1001) X7 Y8) ∧ (¬ r6 = 0 → ((¬ p0 = p1 → PX1_setApart p0 p1 p2 X7 Y8 (fun r12 X13 Y14 => ((r12 = 0 → Q 0 X13 Y14) ∧ (¬ r12 = 0 → Q 1 X13 Y14)))) ∧ (p0 = p1 → Q (-1001) X7 Y8))))))))
def PX9_never (p0 : Int32) (p1 : Int32) (p2 : Int32) (X : XT) (Y : YT) (Q : Int32 → XT → YT → Prop) : Prop :=  BX9_never_s Q p0 p1 p2 X Y
set_option maxHeartbeats 4000000 in
set_option maxRecDepth 100000 in
theorem kX9_never_s {Γ : Cxt} {Q : Int32 → XT → YT → Prop} (O : Ok Γ RX9 cX9_never 4 { frames := 2, cells := 0, slots := 0, locals := 45 }) (r : Ret Γ (some .int) (qI Q)) {p0 : Int32} {p1 : Int32} {p2 : Int32} {X : XT} {Y : YT} (h : BX9_never_s Q p0 p1 p2 X Y) : V Γ 0 [(0, .ref 0), (1, .int p0), (2, .int p1), (3, .int p2)] [] X Y := by
  refine v_aload_n O dX9_never_0 rfl 0 rfl ?_
  refine v_get O dX9_never_1 fo_X9_19 sh_0 rfl rfl ?_
  refine v_iload_n O dX9_never_4 rfl 1 rfl ?_
  refine v_callV (rm' := { frames := 1, cells := 0, slots := 0, locals := 22 }) (As := [.int p0]) (st := []) O dX9_never_5 ci_X1_isKnown ml_X9_100 mi_X1_isKnown sh_3 rfl ⟨rfl, rfl, (by decide), (by decide)⟩ rfl (Nat.le_of_ble_eq_true rfl) rfl (mX1_isKnown h) (k_I (fun r1 X2 Y3 h4 => ?_))
  refine v_if_eq (tgt := 27) O dX9_never_8 (by decide) (fun g5 => ?_) (fun g5 => ?_)
  · refine v_sipush O dX9_never_27 ks_m1001 ?_
    exact v_iret O r dX9_never_30 ⟨_, rfl, (h4.1 g5)⟩
  · refine v_aload_n O dX9_never_11 rfl 0 rfl ?_
    refine v_get O dX9_never_12 fo_X9_19 sh_0 rfl rfl ?_
    refine v_iload_n O dX9_never_15 rfl 2 rfl ?_
    refine v_callV (rm' := { frames := 1, cells := 0, slots := 0, locals := 22 }) (As := [.int p1]) (st := []) O dX9_never_16 ci_X1_isKnown ml_X9_100 mi_X1_isKnown sh_3 rfl ⟨rfl, rfl, (by decide), (by decide)⟩ rfl (Nat.le_of_ble_eq_true rfl) rfl (mX1_isKnown (h4.2 g5)) (k_I (fun r6 X7 Y8 h9 => ?_))
    refine v_if_eq (tgt := 27) O dX9_never_19 (by decide) (fun g10 => ?_) (fun g10 => ?_)
    · refine v_sipush O dX9_never_27 ks_m1001 ?_
      exact v_iret O r dX9_never_30 ⟨_, rfl, (h9.1 g10)⟩
    · refine v_iload_n O dX9_never_22 rfl 1 rfl ?_
      refine v_iload_n O dX9_never_23 rfl 2 rfl ?_
      refine v_icmp_ne (tgt := 31) O dX9_never_24 (by decide) (fun g11 => ?_) (fun g11 => ?_)
      · refine v_aload_n O dX9_never_31 rfl 0 rfl ?_
        refine v_get O dX9_never_32 fo_X9_19 sh_0 rfl rfl ?_
        refine v_iload_n O dX9_never_35 rfl 1 rfl ?_
        refine v_iload_n O dX9_never_36 rfl 2 rfl ?_
        refine v_iload_n O dX9_never_37 rfl 3 rfl ?_
        refine v_callV (rm' := { frames := 1, cells := 0, slots := 0, locals := 21 }) (As := [.int p0, .int p1, .int p2]) (st := []) O dX9_never_38 ci_X1_setApart ml_X9_121 mi_X1_setApart sh_3 rfl ⟨rfl, rfl, (by decide), (by decide)⟩ rfl (Nat.le_of_ble_eq_true rfl) rfl (mX1_setApart ((h9.2 g10).1 g11)) (k_I (fun r12 X13 Y14 h15 => ?_))
        refine v_if_eq (tgt := 48) O dX9_never_41 (by decide) (fun g16 => ?_) (fun g16 => ?_)
        · refine v_iconst O dX9_never_48 kc_0 ?_
          exact v_iret O r dX9_never_49 ⟨_, rfl, (h15.1 g16)⟩
        · refine v_iconst O dX9_never_44 kc_1 ?_
          refine v_goto O dX9_never_45 (tgt := 49) (by decide) ?_
          exact v_iret O r dX9_never_49 ⟨_, rfl, (h15.2 g16)⟩
      · refine v_sipush O dX9_never_27 ks_m1001 ?_
        exact v_iret O r dX9_never_30 ⟨_, rfl, ((h9.2 g10).2 g11)⟩
set_option maxRecDepth 100000 in
theorem mX9_never {Γ : Cxt} {p0 : Int32} {p1 : Int32} {p2 : Int32} {X : XT} {Y : YT} {Q : Int32 → XT → YT → Prop} (h : PX9_never p0 p1 p2 X Y Q) : MT Γ yX9_never (.code yX9_never cX9_never 4 (some .int) :: wl) { frames := 2, cells := 0, slots := 0, locals := 45 } [.ref 0, .int p0, .int p1, .int p2] X Y (qI Q) :=
  mt_of (by decide) (Nat.le_of_ble_eq_true rfl) (fun Γ _ O r => kX9_never_s O r  (h ))
theorem dX9_slack_0 : decode cX9_slack 0 = .ok (.iload_n 1, 1) := by decide +kernel
theorem dX9_slack_1 : decode cX9_slack 1 = .ok (.iconst 0, 1) := by decide +kernel
theorem dX9_slack_2 : decode cX9_slack 2 = .ok (.bipush 9, 2) := by decide +kernel
theorem dX9_slack_4 : decode cX9_slack 4 = .ok (.invokestatic 81, 3) := by decide +kernel
theorem dX9_slack_7 : decode cX9_slack 7 = .ok (.ifCond .ne 7, 3) := by decide +kernel
theorem dX9_slack_10 : decode cX9_slack 10 = .ok (.sipush (-1002), 3) := by decide +kernel
theorem dX9_slack_13 : decode cX9_slack 13 = .ok (.ireturn, 1) := by decide +kernel
theorem dX9_slack_14 : decode cX9_slack 14 = .ok (.aload_n 0, 1) := by decide +kernel
theorem dX9_slack_15 : decode cX9_slack 15 = .ok (.getfield 71, 3) := by decide +kernel
theorem dX9_slack_18 : decode cX9_slack 18 = .ok (.istore_n 2, 1) := by decide +kernel
theorem dX9_slack_19 : decode cX9_slack 19 = .ok (.aload_n 0, 1) := by decide +kernel
theorem dX9_slack_20 : decode cX9_slack 20 = .ok (.iload_n 1, 1) := by decide +kernel
theorem dX9_slack_21 : decode cX9_slack 21 = .ok (.putfield 71, 3) := by decide +kernel
theorem dX9_slack_24 : decode cX9_slack 24 = .ok (.iload_n 2, 1) := by decide +kernel
theorem dX9_slack_25 : decode cX9_slack 25 = .ok (.ireturn, 1) := by decide +kernel
def BX9_slack_s (Q : Int32 → XT → YT → Prop) (p0 : Int32) (X : XT) (Y : YT) : Prop :=
  PX9_within p0 0 9 X Y (fun r1 X2 Y3 => ((¬ r1 = 0 → ∀ w6 : Int32, w6 = (X2 0 8) → Q w6 (sX X2 0 8 p0) Y3) ∧ (r1 = 0 → Q (-1002) X2 Y3)))
def PX9_slack (p0 : Int32) (X : XT) (Y : YT) (Q : Int32 → XT → YT → Prop) : Prop :=  BX9_slack_s Q p0 X Y
set_option maxHeartbeats 4000000 in
set_option maxRecDepth 100000 in
theorem kX9_slack_s {Γ : Cxt} {Q : Int32 → XT → YT → Prop} (O : Ok Γ RX9 cX9_slack 3 { frames := 1, cells := 0, slots := 0, locals := 22 }) (r : Ret Γ (some .int) (qI Q)) {p0 : Int32} {X : XT} {Y : YT} (h : BX9_slack_s Q p0 X Y) : V Γ 0 [(0, .ref 0), (1, .int p0)] [] X Y := by
  refine v_iload_n O dX9_slack_0 rfl 1 rfl ?_
  refine v_iconst O dX9_slack_1 kc_0 ?_
  refine v_bipush O dX9_slack_2 kb_9 ?_
  refine v_callS (rm' := { frames := 0, cells := 0, slots := 0, locals := 0 }) (As := [.int p0, .int 0, .int 9]) (st := []) O dX9_slack_4 ci_X9_within ml_X9_81 ms_X9_within ⟨rfl, rfl, (by decide), (by decide)⟩ rfl (Nat.le_of_ble_eq_true rfl) rfl (mX9_within h) (k_I (fun r1 X2 Y3 h4 => ?_))
  refine v_if_ne (tgt := 14) O dX9_slack_7 (by decide) (fun g5 => ?_) (fun g5 => ?_)
  · refine v_aload_n O dX9_slack_14 rfl 0 rfl ?_
    refine v_get O dX9_slack_15 fo_X9_71 sh_0 rfl rfl ?_
    refine v_topi (fun w6 hw7 => ?_)
    refine v_istore_n (lv' := [(2, .int w6), (0, .ref 0), (1, .int p0)]) O dX9_slack_18 rfl (by decide) rfl ?_
    refine v_aload_n O dX9_slack_19 rfl 1 rfl ?_
    refine v_iload_n O dX9_slack_20 rfl 2 rfl ?_
    refine v_putI O dX9_slack_21 fo_X9_71 fp_9_8 sh_0 rfl rfl rfl ?_
    refine v_iload_n O dX9_slack_24 rfl 0 rfl ?_
    exact v_iret O r dX9_slack_25 ⟨_, rfl, ((h4.1 g5) w6 hw7)⟩
  · refine v_sipush O dX9_slack_10 ks_m1002 ?_
    exact v_iret O r dX9_slack_13 ⟨_, rfl, (h4.2 g5)⟩
set_option maxRecDepth 100000 in
theorem mX9_slack {Γ : Cxt} {p0 : Int32} {X : XT} {Y : YT} {Q : Int32 → XT → YT → Prop} (h : PX9_slack p0 X Y Q) : MT Γ yX9_slack (.code yX9_slack cX9_slack 3 (some .int) :: wl) { frames := 1, cells := 0, slots := 0, locals := 22 } [.ref 0, .int p0] X Y (qI Q) :=
  mt_of (by decide) (Nat.le_of_ble_eq_true rfl) (fun Γ _ O r => kX9_slack_s O r  (h ))
theorem dX9_told_0 : decode cX9_told 0 = .ok (.aload_n 0, 1) := by decide +kernel
theorem dX9_told_1 : decode cX9_told 1 = .ok (.getfield 19, 3) := by decide +kernel
theorem dX9_told_4 : decode cX9_told 4 = .ok (.iload_n 1, 1) := by decide +kernel
theorem dX9_told_5 : decode cX9_told 5 = .ok (.invokevirtual 100, 3) := by decide +kernel
theorem dX9_told_8 : decode cX9_told 8 = .ok (.ifCond .ne 7, 3) := by decide +kernel
theorem dX9_told_11 : decode cX9_told 11 = .ok (.sipush (-1001), 3) := by decide +kernel
theorem dX9_told_14 : decode cX9_told 14 = .ok (.ireturn, 1) := by decide +kernel
theorem dX9_told_15 : decode cX9_told 15 = .ok (.iload_n 2, 1) := by decide +kernel
theorem dX9_told_16 : decode cX9_told 16 = .ok (.tableswitch 104 0 6 #[44, 44, 54, 64, 74, 84, 94], 44) := by decide +kernel
theorem dX9_told_60 : decode cX9_told 60 = .ok (.aload_n 0, 1) := by decide +kernel
theorem dX9_told_61 : decode cX9_told 61 = .ok (.getfield 19, 3) := by decide +kernel
theorem dX9_told_64 : decode cX9_told 64 = .ok (.iload_n 1, 1) := by decide +kernel
theorem dX9_told_65 : decode cX9_told 65 = .ok (.iload_n 2, 1) := by decide +kernel
theorem dX9_told_66 : decode cX9_told 66 = .ok (.invokevirtual 125, 3) := by decide +kernel
theorem dX9_told_69 : decode cX9_told 69 = .ok (.ireturn, 1) := by decide +kernel
theorem dX9_told_70 : decode cX9_told 70 = .ok (.aload_n 0, 1) := by decide +kernel
theorem dX9_told_71 : decode cX9_told 71 = .ok (.getfield 19, 3) := by decide +kernel
theorem dX9_told_74 : decode cX9_told 74 = .ok (.getfield 108, 3) := by decide +kernel
theorem dX9_told_77 : decode cX9_told 77 = .ok (.iload_n 1, 1) := by decide +kernel
theorem dX9_told_78 : decode cX9_told 78 = .ok (.iaload, 1) := by decide +kernel
theorem dX9_told_79 : decode cX9_told 79 = .ok (.ireturn, 1) := by decide +kernel
theorem dX9_told_80 : decode cX9_told 80 = .ok (.aload_n 0, 1) := by decide +kernel
theorem dX9_told_81 : decode cX9_told 81 = .ok (.getfield 19, 3) := by decide +kernel
theorem dX9_told_84 : decode cX9_told 84 = .ok (.getfield 115, 3) := by decide +kernel
theorem dX9_told_87 : decode cX9_told 87 = .ok (.iload_n 1, 1) := by decide +kernel
theorem dX9_told_88 : decode cX9_told 88 = .ok (.iaload, 1) := by decide +kernel
theorem dX9_told_89 : decode cX9_told 89 = .ok (.ireturn, 1) := by decide +kernel
theorem dX9_told_90 : decode cX9_told 90 = .ok (.aload_n 0, 1) := by decide +kernel
theorem dX9_told_91 : decode cX9_told 91 = .ok (.getfield 19, 3) := by decide +kernel
theorem dX9_told_94 : decode cX9_told 94 = .ok (.getfield 112, 3) := by decide +kernel
theorem dX9_told_97 : decode cX9_told 97 = .ok (.iload_n 1, 1) := by decide +kernel
theorem dX9_told_98 : decode cX9_told 98 = .ok (.iaload, 1) := by decide +kernel
theorem dX9_told_99 : decode cX9_told 99 = .ok (.ireturn, 1) := by decide +kernel
theorem dX9_told_100 : decode cX9_told 100 = .ok (.aload_n 0, 1) := by decide +kernel
theorem dX9_told_101 : decode cX9_told 101 = .ok (.getfield 19, 3) := by decide +kernel
theorem dX9_told_104 : decode cX9_told 104 = .ok (.getfield 118, 3) := by decide +kernel
theorem dX9_told_107 : decode cX9_told 107 = .ok (.iload_n 1, 1) := by decide +kernel
theorem dX9_told_108 : decode cX9_told 108 = .ok (.iaload, 1) := by decide +kernel
theorem dX9_told_109 : decode cX9_told 109 = .ok (.ireturn, 1) := by decide +kernel
theorem dX9_told_110 : decode cX9_told 110 = .ok (.aload_n 0, 1) := by decide +kernel
theorem dX9_told_111 : decode cX9_told 111 = .ok (.getfield 19, 3) := by decide +kernel
theorem dX9_told_114 : decode cX9_told 114 = .ok (.getfield 129, 3) := by decide +kernel
theorem dX9_told_117 : decode cX9_told 117 = .ok (.iload_n 1, 1) := by decide +kernel
theorem dX9_told_118 : decode cX9_told 118 = .ok (.iaload, 1) := by decide +kernel
theorem dX9_told_119 : decode cX9_told 119 = .ok (.ireturn, 1) := by decide +kernel
theorem dX9_told_120 : decode cX9_told 120 = .ok (.sipush (-1002), 3) := by decide +kernel
theorem dX9_told_123 : decode cX9_told 123 = .ok (.ireturn, 1) := by decide +kernel
def BX9_told_60 (I60 : Int32 → Int32 → XT → YT → Prop) (Q : Int32 → XT → YT → Prop) (a1 : Int32) (a2 : Int32) (X : XT) (Y : YT) : Prop :=
  PX1_widthOf a1 a2 X Y (fun r1 X2 Y3 => Q r1 X2 Y3)
def BX9_told_s (I60 : Int32 → Int32 → XT → YT → Prop) (Q : Int32 → XT → YT → Prop) (p0 : Int32) (p1 : Int32) (X : XT) (Y : YT) : Prop :=
  PX1_isKnown p0 X Y (fun r1 X2 Y3 => ((¬ r1 = 0 → ((p1.toInt < 0 ∨ 6 < p1.toInt → Q (-1002) X2 Y3) ∧ (p1 = 0 → I60 p0 p1 X2 Y3) ∧ (p1 = 1 → I60 p0 p1 X2 Y3) ∧ (p1 = 2 → vp_in p0 10 ∧ Q (X2 8 p0.toNatClampNeg) X2 Y3) ∧ (p1 = 3 → vp_in p0 10 ∧ Q (X2 9 p0.toNatClampNeg) X2 Y3) ∧ (p1 = 4 → vp_in p0 10 ∧ Q (X2 10 p0.toNatClampNeg) X2 Y3) ∧ (p1 = 5 → vp_in p0 10 ∧ Q (X2 11 p0.toNatClampNeg) X2 Y3) ∧ (p1 = 6 → vp_in p0 10 ∧ Q (X2 6 p0.toNatClampNeg) X2 Y3))) ∧ (r1 = 0 → Q (-1001) X2 Y3)))
def PX9_told (p0 : Int32) (p1 : Int32) (X : XT) (Y : YT) (Q : Int32 → XT → YT → Prop) : Prop := ∀ (I60 : Int32 → Int32 → XT → YT → Prop), (∀ (a1 : Int32) (a2 : Int32) (X : XT) (Y : YT), BX9_told_60 I60 Q a1 a2 X Y → I60 a1 a2 X Y) → BX9_told_s I60 Q p0 p1 X Y
set_option maxHeartbeats 4000000 in
set_option maxRecDepth 100000 in
theorem kX9_told_60 {Γ : Cxt} {Q : Int32 → XT → YT → Prop} (O : Ok Γ RX9 cX9_told 3 { frames := 2, cells := 0, slots := 0, locals := 43 }) (r : Ret Γ (some .int) (qI Q)) {I60 : Int32 → Int32 → XT → YT → Prop} (e60 : ∀ (a1 : Int32) (a2 : Int32) (X : XT) (Y : YT), I60 a1 a2 X Y → V Γ 60 [(0, .ref 0), (1, .int a1), (2, .int a2)] [] X Y) {a1 : Int32} {a2 : Int32} {X : XT} {Y : YT} (h : BX9_told_60 I60 Q a1 a2 X Y) : V Γ 60 [(0, .ref 0), (1, .int a1), (2, .int a2)] [] X Y := by
  refine v_aload_n O dX9_told_60 rfl 0 rfl ?_
  refine v_get O dX9_told_61 fo_X9_19 sh_0 rfl rfl ?_
  refine v_iload_n O dX9_told_64 rfl 1 rfl ?_
  refine v_iload_n O dX9_told_65 rfl 2 rfl ?_
  refine v_callV (rm' := { frames := 0, cells := 0, slots := 0, locals := 0 }) (As := [.int a1, .int a2]) (st := []) O dX9_told_66 ci_X1_widthOf ml_X9_125 mi_X1_widthOf sh_3 rfl ⟨rfl, rfl, (by decide), (by decide)⟩ rfl (Nat.le_of_ble_eq_true rfl) rfl (mX1_widthOf h) (k_I (fun r1 X2 Y3 h4 => ?_))
  exact v_iret O r dX9_told_69 ⟨_, rfl, h4⟩
set_option maxHeartbeats 4000000 in
set_option maxRecDepth 100000 in
theorem kX9_told_s {Γ : Cxt} {Q : Int32 → XT → YT → Prop} (O : Ok Γ RX9 cX9_told 3 { frames := 2, cells := 0, slots := 0, locals := 43 }) (r : Ret Γ (some .int) (qI Q)) {I60 : Int32 → Int32 → XT → YT → Prop} (e60 : ∀ (a1 : Int32) (a2 : Int32) (X : XT) (Y : YT), I60 a1 a2 X Y → V Γ 60 [(0, .ref 0), (1, .int a1), (2, .int a2)] [] X Y) {p0 : Int32} {p1 : Int32} {X : XT} {Y : YT} (h : BX9_told_s I60 Q p0 p1 X Y) : V Γ 0 [(0, .ref 0), (1, .int p0), (2, .int p1)] [] X Y := by
  refine v_aload_n O dX9_told_0 rfl 0 rfl ?_
  refine v_get O dX9_told_1 fo_X9_19 sh_0 rfl rfl ?_
  refine v_iload_n O dX9_told_4 rfl 1 rfl ?_
  refine v_callV (rm' := { frames := 1, cells := 0, slots := 0, locals := 22 }) (As := [.int p0]) (st := []) O dX9_told_5 ci_X1_isKnown ml_X9_100 mi_X1_isKnown sh_3 rfl ⟨rfl, rfl, (by decide), (by decide)⟩ rfl (Nat.le_of_ble_eq_true rfl) rfl (mX1_isKnown h) (k_I (fun r1 X2 Y3 h4 => ?_))
  refine v_if_ne (tgt := 15) O dX9_told_8 (by decide) (fun g5 => ?_) (fun g5 => ?_)
  · refine v_iload_n O dX9_told_15 rfl 2 rfl ?_
    refine v_tsw (tg := [60, 60, 70, 80, 90, 100, 110]) (dt := 120) O dX9_told_16 (by decide) (by decide) (by decide) (by decide) (fun g6 => ?_) (fun j t hj g6 => ?_)
    · refine v_sipush O dX9_told_120 ks_m1002 ?_
      exact v_iret O r dX9_told_123 ⟨_, rfl, ((h4.1 g5).1 g6)⟩
    · match j, hj with
      | 0, hj =>
        cases hj
        exact v_loc [0, 1, 2] rfl (e60 p0 p1 X2 Y3 ((h4.1 g5).2.1 g6))
      | 1, hj =>
        cases hj
        exact v_loc [0, 1, 2] rfl (e60 p0 p1 X2 Y3 ((h4.1 g5).2.2.1 g6))
      | 2, hj =>
        cases hj
        refine v_aload_n O dX9_told_70 rfl 0 rfl ?_
        refine v_get O dX9_told_71 fo_X9_19 sh_0 rfl rfl ?_
        refine v_get O dX9_told_74 fo_X9_108 sh_3 rfl rfl ?_
        refine v_iload_n O dX9_told_77 rfl 1 rfl ?_
        refine v_iald O dX9_told_78 sh_8 ((h4.1 g5).2.2.2.1 g6).1 ?_
        exact v_iret O r dX9_told_79 ⟨_, rfl, ((h4.1 g5).2.2.2.1 g6).2⟩
      | 3, hj =>
        cases hj
        refine v_aload_n O dX9_told_80 rfl 0 rfl ?_
        refine v_get O dX9_told_81 fo_X9_19 sh_0 rfl rfl ?_
        refine v_get O dX9_told_84 fo_X9_115 sh_3 rfl rfl ?_
        refine v_iload_n O dX9_told_87 rfl 1 rfl ?_
        refine v_iald O dX9_told_88 sh_9 ((h4.1 g5).2.2.2.2.1 g6).1 ?_
        exact v_iret O r dX9_told_89 ⟨_, rfl, ((h4.1 g5).2.2.2.2.1 g6).2⟩
      | 4, hj =>
        cases hj
        refine v_aload_n O dX9_told_90 rfl 0 rfl ?_
        refine v_get O dX9_told_91 fo_X9_19 sh_0 rfl rfl ?_
        refine v_get O dX9_told_94 fo_X9_112 sh_3 rfl rfl ?_
        refine v_iload_n O dX9_told_97 rfl 1 rfl ?_
        refine v_iald O dX9_told_98 sh_10 ((h4.1 g5).2.2.2.2.2.1 g6).1 ?_
        exact v_iret O r dX9_told_99 ⟨_, rfl, ((h4.1 g5).2.2.2.2.2.1 g6).2⟩
      | 5, hj =>
        cases hj
        refine v_aload_n O dX9_told_100 rfl 0 rfl ?_
        refine v_get O dX9_told_101 fo_X9_19 sh_0 rfl rfl ?_
        refine v_get O dX9_told_104 fo_X9_118 sh_3 rfl rfl ?_
        refine v_iload_n O dX9_told_107 rfl 1 rfl ?_
        refine v_iald O dX9_told_108 sh_11 ((h4.1 g5).2.2.2.2.2.2.1 g6).1 ?_
        exact v_iret O r dX9_told_109 ⟨_, rfl, ((h4.1 g5).2.2.2.2.2.2.1 g6).2⟩
      | 6, hj =>
        cases hj
        refine v_aload_n O dX9_told_110 rfl 0 rfl ?_
        refine v_get O dX9_told_111 fo_X9_19 sh_0 rfl rfl ?_
        refine v_get O dX9_told_114 fo_X9_129 sh_3 rfl rfl ?_
        refine v_iload_n O dX9_told_117 rfl 1 rfl ?_
        refine v_iald O dX9_told_118 sh_6 ((h4.1 g5).2.2.2.2.2.2.2 g6).1 ?_
        exact v_iret O r dX9_told_119 ⟨_, rfl, ((h4.1 g5).2.2.2.2.2.2.2 g6).2⟩
      | j + 7, hj => simp at hj
  · refine v_sipush O dX9_told_11 ks_m1001 ?_
    exact v_iret O r dX9_told_14 ⟨_, rfl, (h4.2 g5)⟩
set_option maxRecDepth 100000 in
theorem mX9_told {Γ : Cxt} {p0 : Int32} {p1 : Int32} {X : XT} {Y : YT} {Q : Int32 → XT → YT → Prop} (h : PX9_told p0 p1 X Y Q) : MT Γ yX9_told (.code yX9_told cX9_told 3 (some .int) :: wl) { frames := 2, cells := 0, slots := 0, locals := 43 } [.ref 0, .int p0, .int p1] X Y (qI Q) :=
  mt_of (by decide) (Nat.le_of_ble_eq_true rfl) (fun Γ _ O r => kX9_told_s O r (fun _ _ _ _ g => g) (h (fun a1 a2 X Y => V Γ 60 [(0, .ref 0), (1, .int a1), (2, .int a2)] [] X Y) (fun _ _ _ _ g => kX9_told_60 O r (fun _ _ _ _ g => g) g)))
theorem dX9_count_0 : decode cX9_count 0 = .ok (.iload_n 1, 1) := by decide +kernel
theorem dX9_count_1 : decode cX9_count 1 = .ok (.tableswitch 120 0 8 #[51, 59, 67, 75, 83, 91, 99, 107, 112], 51) := by decide +kernel
theorem dX9_count_52 : decode cX9_count 52 = .ok (.aload_n 0, 1) := by decide +kernel
theorem dX9_count_53 : decode cX9_count 53 = .ok (.getfield 19, 3) := by decide +kernel
theorem dX9_count_56 : decode cX9_count 56 = .ok (.getfield 132, 3) := by decide +kernel
theorem dX9_count_59 : decode cX9_count 59 = .ok (.ireturn, 1) := by decide +kernel
theorem dX9_count_60 : decode cX9_count 60 = .ok (.aload_n 0, 1) := by decide +kernel
theorem dX9_count_61 : decode cX9_count 61 = .ok (.getfield 26, 3) := by decide +kernel
theorem dX9_count_64 : decode cX9_count 64 = .ok (.getfield 133, 3) := by decide +kernel
theorem dX9_count_67 : decode cX9_count 67 = .ok (.ireturn, 1) := by decide +kernel
theorem dX9_count_68 : decode cX9_count 68 = .ok (.aload_n 0, 1) := by decide +kernel
theorem dX9_count_69 : decode cX9_count 69 = .ok (.getfield 26, 3) := by decide +kernel
theorem dX9_count_72 : decode cX9_count 72 = .ok (.getfield 134, 3) := by decide +kernel
theorem dX9_count_75 : decode cX9_count 75 = .ok (.ireturn, 1) := by decide +kernel
theorem dX9_count_76 : decode cX9_count 76 = .ok (.aload_n 0, 1) := by decide +kernel
theorem dX9_count_77 : decode cX9_count 77 = .ok (.getfield 26, 3) := by decide +kernel
theorem dX9_count_80 : decode cX9_count 80 = .ok (.getfield 137, 3) := by decide +kernel
theorem dX9_count_83 : decode cX9_count 83 = .ok (.ireturn, 1) := by decide +kernel
theorem dX9_count_84 : decode cX9_count 84 = .ok (.aload_n 0, 1) := by decide +kernel
theorem dX9_count_85 : decode cX9_count 85 = .ok (.getfield 26, 3) := by decide +kernel
theorem dX9_count_88 : decode cX9_count 88 = .ok (.getfield 140, 3) := by decide +kernel
theorem dX9_count_91 : decode cX9_count 91 = .ok (.ireturn, 1) := by decide +kernel
theorem dX9_count_92 : decode cX9_count 92 = .ok (.aload_n 0, 1) := by decide +kernel
theorem dX9_count_93 : decode cX9_count 93 = .ok (.getfield 19, 3) := by decide +kernel
theorem dX9_count_96 : decode cX9_count 96 = .ok (.invokevirtual 143, 3) := by decide +kernel
theorem dX9_count_99 : decode cX9_count 99 = .ok (.ireturn, 1) := by decide +kernel
theorem dX9_count_100 : decode cX9_count 100 = .ok (.aload_n 0, 1) := by decide +kernel
theorem dX9_count_101 : decode cX9_count 101 = .ok (.getfield 12, 3) := by decide +kernel
theorem dX9_count_104 : decode cX9_count 104 = .ok (.getfield 89, 3) := by decide +kernel
theorem dX9_count_107 : decode cX9_count 107 = .ok (.ireturn, 1) := by decide +kernel
theorem dX9_count_108 : decode cX9_count 108 = .ok (.aload_n 0, 1) := by decide +kernel
theorem dX9_count_109 : decode cX9_count 109 = .ok (.getfield 71, 3) := by decide +kernel
theorem dX9_count_112 : decode cX9_count 112 = .ok (.ireturn, 1) := by decide +kernel
theorem dX9_count_113 : decode cX9_count 113 = .ok (.aload_n 0, 1) := by decide +kernel
theorem dX9_count_114 : decode cX9_count 114 = .ok (.getfield 75, 3) := by decide +kernel
theorem dX9_count_117 : decode cX9_count 117 = .ok (.invokestatic 146, 3) := by decide +kernel
theorem dX9_count_120 : decode cX9_count 120 = .ok (.ireturn, 1) := by decide +kernel
theorem dX9_count_121 : decode cX9_count 121 = .ok (.sipush (-1002), 3) := by decide +kernel
theorem dX9_count_124 : decode cX9_count 124 = .ok (.ireturn, 1) := by decide +kernel
def BX9_count_s (Q : Int32 → XT → YT → Prop) (p0 : Int32) (X : XT) (Y : YT) : Prop :=
  ((p0.toInt < 0 ∨ 8 < p0.toInt → Q (-1002) X Y) ∧ (p0 = 0 → Q (X 3 9) X Y) ∧ (p0 = 1 → Q (X 13 10) X Y) ∧ (p0 = 2 → Q (X 13 11) X Y) ∧ (p0 = 3 → Q (X 13 13) X Y) ∧ (p0 = 4 → Q (X 13 14) X Y) ∧ (p0 = 5 → PX1_pairsApart X Y (fun r2 X3 Y4 => Q r2 X3 Y4)) ∧ (p0 = 6 → Q (X 1 1) X Y) ∧ (p0 = 7 → Q (X 0 8) X Y) ∧ (p0 = 8 → PJ6_bitCount_0f7a4 (X 0 9) X Y (fun r6 X7 Y8 => Q r6 X7 Y8)))
def PX9_count (p0 : Int32) (X : XT) (Y : YT) (Q : Int32 → XT → YT → Prop) : Prop :=  BX9_count_s Q p0 X Y
set_option maxHeartbeats 4000000 in
set_option maxRecDepth 100000 in
theorem kX9_count_s {Γ : Cxt} {Q : Int32 → XT → YT → Prop} (O : Ok Γ RX9 cX9_count 2 { frames := 2, cells := 0, slots := 0, locals := 42 }) (r : Ret Γ (some .int) (qI Q)) {p0 : Int32} {X : XT} {Y : YT} (h : BX9_count_s Q p0 X Y) : V Γ 0 [(0, .ref 0), (1, .int p0)] [] X Y := by
  refine v_iload_n O dX9_count_0 rfl 1 rfl ?_
  refine v_tsw (tg := [52, 60, 68, 76, 84, 92, 100, 108, 113]) (dt := 121) O dX9_count_1 (by decide) (by decide) (by decide) (by decide) (fun g1 => ?_) (fun j t hj g1 => ?_)
  · refine v_sipush O dX9_count_121 ks_m1002 ?_
    exact v_iret O r dX9_count_124 ⟨_, rfl, (h.1 g1)⟩
  · match j, hj with
    | 0, hj =>
      cases hj
      refine v_aload_n O dX9_count_52 rfl 0 rfl ?_
      refine v_get O dX9_count_53 fo_X9_19 sh_0 rfl rfl ?_
      refine v_get O dX9_count_56 fo_X9_132 sh_3 rfl rfl ?_
      exact v_iret O r dX9_count_59 ⟨_, rfl, (h.2.1 g1)⟩
    | 1, hj =>
      cases hj
      refine v_aload_n O dX9_count_60 rfl 0 rfl ?_
      refine v_get O dX9_count_61 fo_X9_26 sh_0 rfl rfl ?_
      refine v_get O dX9_count_64 fo_X9_133 sh_13 rfl rfl ?_
      exact v_iret O r dX9_count_67 ⟨_, rfl, (h.2.2.1 g1)⟩
    | 2, hj =>
      cases hj
      refine v_aload_n O dX9_count_68 rfl 0 rfl ?_
      refine v_get O dX9_count_69 fo_X9_26 sh_0 rfl rfl ?_
      refine v_get O dX9_count_72 fo_X9_134 sh_13 rfl rfl ?_
      exact v_iret O r dX9_count_75 ⟨_, rfl, (h.2.2.2.1 g1)⟩
    | 3, hj =>
      cases hj
      refine v_aload_n O dX9_count_76 rfl 0 rfl ?_
      refine v_get O dX9_count_77 fo_X9_26 sh_0 rfl rfl ?_
      refine v_get O dX9_count_80 fo_X9_137 sh_13 rfl rfl ?_
      exact v_iret O r dX9_count_83 ⟨_, rfl, (h.2.2.2.2.1 g1)⟩
    | 4, hj =>
      cases hj
      refine v_aload_n O dX9_count_84 rfl 0 rfl ?_
      refine v_get O dX9_count_85 fo_X9_26 sh_0 rfl rfl ?_
      refine v_get O dX9_count_88 fo_X9_140 sh_13 rfl rfl ?_
      exact v_iret O r dX9_count_91 ⟨_, rfl, (h.2.2.2.2.2.1 g1)⟩
    | 5, hj =>
      cases hj
      refine v_aload_n O dX9_count_92 rfl 0 rfl ?_
      refine v_get O dX9_count_93 fo_X9_19 sh_0 rfl rfl ?_
      refine v_callV (rm' := { frames := 1, cells := 0, slots := 0, locals := 20 }) (As := []) (st := []) O dX9_count_96 ci_X1_pairsApart ml_X9_143 mi_X1_pairsApart sh_3 rfl ⟨rfl, rfl, (by decide), (by decide)⟩ rfl (Nat.le_of_ble_eq_true rfl) rfl (mX1_pairsApart (h.2.2.2.2.2.2.1 g1)) (k_I (fun r2 X3 Y4 h5 => ?_))
      exact v_iret O r dX9_count_99 ⟨_, rfl, h5⟩
    | 6, hj =>
      cases hj
      refine v_aload_n O dX9_count_100 rfl 0 rfl ?_
      refine v_get O dX9_count_101 fo_X9_12 sh_0 rfl rfl ?_
      refine v_get O dX9_count_104 fo_X9_89 sh_1 rfl rfl ?_
      exact v_iret O r dX9_count_107 ⟨_, rfl, (h.2.2.2.2.2.2.2.1 g1)⟩
    | 7, hj =>
      cases hj
      refine v_aload_n O dX9_count_108 rfl 0 rfl ?_
      refine v_get O dX9_count_109 fo_X9_71 sh_0 rfl rfl ?_
      exact v_iret O r dX9_count_112 ⟨_, rfl, (h.2.2.2.2.2.2.2.2.1 g1)⟩
    | 8, hj =>
      cases hj
      refine v_aload_n O dX9_count_113 rfl 0 rfl ?_
      refine v_get O dX9_count_114 fo_X9_75 sh_0 rfl rfl ?_
      refine v_callS (rm' := { frames := 0, cells := 0, slots := 0, locals := 0 }) (As := [.int (X 0 9)]) (st := []) O dX9_count_117 ci_J6_bitCount_0f7a4 ml_X9_146 ms_J6_bitCount_0f7a4 ⟨rfl, rfl, (by decide), (by decide)⟩ rfl (Nat.le_of_ble_eq_true rfl) rfl (mJ6_bitCount_0f7a4 (h.2.2.2.2.2.2.2.2.2 g1)) (k_I (fun r6 X7 Y8 h9 => ?_))
      exact v_iret O r dX9_count_120 ⟨_, rfl, h9⟩
    | j + 9, hj => simp at hj
set_option maxRecDepth 100000 in
theorem mX9_count {Γ : Cxt} {p0 : Int32} {X : XT} {Y : YT} {Q : Int32 → XT → YT → Prop} (h : PX9_count p0 X Y Q) : MT Γ yX9_count (.code yX9_count cX9_count 2 (some .int) :: wl) { frames := 2, cells := 0, slots := 0, locals := 42 } [.ref 0, .int p0] X Y (qI Q) :=
  mt_of (by decide) (Nat.le_of_ble_eq_true rfl) (fun Γ _ O r => kX9_count_s O r  (h ))
