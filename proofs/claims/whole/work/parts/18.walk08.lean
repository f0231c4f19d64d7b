theorem dX10_here_0 : decode cX10_here 0 = .ok (.aload_n 0, 1) := by decide +kernel
theorem dX10_here_1 : decode cX10_here 1 = .ok (.getfield 175, 3) := by decide +kernel
theorem dX10_here_4 : decode cX10_here 4 = .ok (.aload_n 0, 1) := by decide +kernel
theorem dX10_here_5 : decode cX10_here 5 = .ok (.getfield 118, 3) := by decide +kernel
theorem dX10_here_8 : decode cX10_here 8 = .ok (.if_icmp .ge 30, 3) := by decide +kernel
theorem dX10_here_11 : decode cX10_here 11 = .ok (.aload_n 0, 1) := by decide +kernel
theorem dX10_here_12 : decode cX10_here 12 = .ok (.getfield 34, 3) := by decide +kernel
theorem dX10_here_15 : decode cX10_here 15 = .ok (.aload_n 0, 1) := by decide +kernel
theorem dX10_here_16 : decode cX10_here 16 = .ok (.getfield 175, 3) := by decide +kernel
theorem dX10_here_19 : decode cX10_here 19 = .ok (.iaload, 1) := by decide +kernel
theorem dX10_here_20 : decode cX10_here 20 = .ok (.bipush 32, 2) := by decide +kernel
theorem dX10_here_22 : decode cX10_here 22 = .ok (.if_icmp .ne 16, 3) := by decide +kernel
theorem dX10_here_25 : decode cX10_here 25 = .ok (.aload_n 0, 1) := by decide +kernel
theorem dX10_here_26 : decode cX10_here 26 = .ok (.dup, 1) := by decide +kernel
theorem dX10_here_27 : decode cX10_here 27 = .ok (.getfield 175, 3) := by decide +kernel
theorem dX10_here_30 : decode cX10_here 30 = .ok (.iconst 1, 1) := by decide +kernel
theorem dX10_here_31 : decode cX10_here 31 = .ok (.iadd, 1) := by decide +kernel
theorem dX10_here_32 : decode cX10_here 32 = .ok (.putfield 175, 3) := by decide +kernel
theorem dX10_here_35 : decode cX10_here 35 = .ok (.goto (-35), 3) := by decide +kernel
theorem dX10_here_38 : decode cX10_here 38 = .ok (.aload_n 0, 1) := by decide +kernel
theorem dX10_here_39 : decode cX10_here 39 = .ok (.getfield 175, 3) := by decide +kernel
theorem dX10_here_42 : decode cX10_here 42 = .ok (.aload_n 0, 1) := by decide +kernel
theorem dX10_here_43 : decode cX10_here 43 = .ok (.getfield 118, 3) := by decide +kernel
theorem dX10_here_46 : decode cX10_here 46 = .ok (.if_icmp .ge 15, 3) := by decide +kernel
theorem dX10_here_49 : decode cX10_here 49 = .ok (.aload_n 0, 1) := by decide +kernel
theorem dX10_here_50 : decode cX10_here 50 = .ok (.getfield 34, 3) := by decide +kernel
theorem dX10_here_53 : decode cX10_here 53 = .ok (.aload_n 0, 1) := by decide +kernel
theorem dX10_here_54 : decode cX10_here 54 = .ok (.getfield 175, 3) := by decide +kernel
theorem dX10_here_57 : decode cX10_here 57 = .ok (.iaload, 1) := by decide +kernel
theorem dX10_here_58 : decode cX10_here 58 = .ok (.goto 4, 3) := by decide +kernel
theorem dX10_here_61 : decode cX10_here 61 = .ok (.iconst (-1), 1) := by decide +kernel
theorem dX10_here_62 : decode cX10_here 62 = .ok (.ireturn, 1) := by decide +kernel
def BX10_here_0 (I0 : XT → YT → Prop) (Q : Int32 → XT → YT → Prop) (X : XT) (Y : YT) : Prop :=
  (((X 48 12) ≤ (X 48 27) → (((X 48 12) ≤ (X 48 27) → Q (-1) X Y) ∧ (¬ (X 48 12) ≤ (X 48 27) → vp_in (X 48 27) 120 ∧ Q (X 57 (X 48 27).toNatClampNeg) X Y))) ∧ (¬ (X 48 12) ≤ (X 48 27) → vp_in (X 48 27) 120 ∧ ((¬ (X 57 (X 48 27).toNatClampNeg) = 32 → (((X 48 12) ≤ (X 48 27) → Q (-1) X Y) ∧ (¬ (X 48 12) ≤ (X 48 27) → vp_in (X 48 27) 120 ∧ Q (X 57 (X 48 27).toNatClampNeg) X Y))) ∧ ((X 57 (X 48 27).toNatClampNeg) = 32 → I0 (sX X 48 27 ((X 48 27) + 1)) Y))))
def BX10_here_s (I0 : XT → YT → Prop) (Q : Int32 → XT → YT → Prop) (X : XT) (Y : YT) : Prop :=
  (((X 48 12) ≤ (X 48 27) → (((X 48 12) ≤ (X 48 27) → Q (-1) X Y) ∧ (¬ (X 48 12) ≤ (X 48 27) → vp_in (X 48 27) 120 ∧ Q (X 57 (X 48 27).toNatClampNeg) X Y))) ∧ (¬ (X 48 12) ≤ (X 48 27) → vp_in (X 48 27) 120 ∧ ((¬ (X 57 (X 48 27).toNatClampNeg) = 32 → (((X 48 12) ≤ (X 48 27) → Q (-1) X Y) ∧ (¬ (X 48 12) ≤ (X 48 27) → vp_in (X 48 27) 120 ∧ Q (X 57 (X 48 27).toNatClampNeg) X Y))) ∧ ((X 57 (X 48 27).toNatClampNeg) = 32 → I0 (sX X 48 27 ((X 48 27) + 1)) Y))))
def PX10_here (X : XT) (Y : YT) (Q : Int32 → XT → YT → Prop) : Prop := ∀ (I0 : XT → YT → Prop), (∀ (X : XT) (Y : YT), BX10_here_0 I0 Q X Y → I0 X Y) → BX10_here_s I0 Q X Y
set_option maxHeartbeats 4000000 in
set_option maxRecDepth 100000 in
theorem kX10_here_0 {Γ : Cxt} {Q : Int32 → XT → YT → Prop} (O : Ok Γ RX10 cX10_here 1 { frames := 0, cells := 0, slots := 0, locals := 0 }) (r : Ret Γ (some .int) (qI Q)) {I0 : XT → YT → Prop} (e0 : ∀ (X : XT) (Y : YT), I0 X Y → V Γ 0 [(0, .ref 48)] [] X Y) {X : XT} {Y : YT} (h : BX10_here_0 I0 Q X Y) : V Γ 0 [(0, .ref 48)] [] X Y := by
  refine v_aload_n O dX10_here_0 rfl 0 rfl ?_
  refine v_get O dX10_here_1 fo_X10_175 sh_48 rfl rfl ?_
  refine v_aload_n O dX10_here_4 rfl 0 rfl ?_
  refine v_get O dX10_here_5 fo_X10_118 sh_48 rfl rfl ?_
  refine v_icmp_ge (tgt := 38) O dX10_here_8 (by decide) (fun g1 => ?_) (fun g1 => ?_)
  · refine v_aload_n O dX10_here_38 rfl 0 rfl ?_
    refine v_get O dX10_here_39 fo_X10_175 sh_48 rfl rfl ?_
    refine v_aload_n O dX10_here_42 rfl 0 rfl ?_
    refine v_get O dX10_here_43 fo_X10_118 sh_48 rfl rfl ?_
    refine v_icmp_ge (tgt := 61) O dX10_here_46 (by decide) (fun g2 => ?_) (fun g2 => ?_)
    · refine v_iconst O dX10_here_61 kc_m1 ?_
      exact v_iret O r dX10_here_62 ⟨_, rfl, ((h.1 g1).1 g2)⟩
    · refine v_aload_n O dX10_here_49 rfl 0 rfl ?_
      refine v_get O dX10_here_50 fo_X10_34 sh_48 rfl rfl ?_
      refine v_aload_n O dX10_here_53 rfl 0 rfl ?_
      refine v_get O dX10_here_54 fo_X10_175 sh_48 rfl rfl ?_
      refine v_iald O dX10_here_57 sh_57 ((h.1 g1).2 g2).1 ?_
      refine v_goto O dX10_here_58 (tgt := 62) (by decide) ?_
      exact v_iret O r dX10_here_62 ⟨_, rfl, ((h.1 g1).2 g2).2⟩
  · refine v_aload_n O dX10_here_11 rfl 0 rfl ?_
    refine v_get O dX10_here_12 fo_X10_34 sh_48 rfl rfl ?_
    refine v_aload_n O dX10_here_15 rfl 0 rfl ?_
    refine v_get O dX10_here_16 fo_X10_175 sh_48 rfl rfl ?_
    refine v_iald O dX10_here_19 sh_57 (h.2 g1).1 ?_
    refine v_bipush O dX10_here_20 kb_32 ?_
    refine v_icmp_ne (tgt := 38) O dX10_here_22 (by decide) (fun g3 => ?_) (fun g3 => ?_)
    · refine v_aload_n O dX10_here_38 rfl 0 rfl ?_
      refine v_get O dX10_here_39 fo_X10_175 sh_48 rfl rfl ?_
      refine v_aload_n O dX10_here_42 rfl 0 rfl ?_
      refine v_get O dX10_here_43 fo_X10_118 sh_48 rfl rfl ?_
      refine v_icmp_ge (tgt := 61) O dX10_here_46 (by decide) (fun g4 => ?_) (fun g4 => ?_)
      · refine v_iconst O dX10_here_61 kc_m1 ?_
        exact v_iret O r dX10_here_62 ⟨_, rfl, (((h.2 g1).2.1 g3).1 g4)⟩
      · refine v_aload_n O dX10_here_49 rfl 0 rfl ?_
        refine v_get O dX10_here_50 fo_X10_34 sh_48 rfl rfl ?_
        refine v_aload_n O dX10_here_53 rfl 0 rfl ?_
        refine v_get O dX10_here_54 fo_X10_175 sh_48 rfl rfl ?_
        refine v_iald O dX10_here_57 sh_57 (((h.2 g1).2.1 g3).2 g4).1 ?_
        refine v_goto O dX10_here_58 (tgt := 62) (by decide) ?_
        exact v_iret O r dX10_here_62 ⟨_, rfl, (((h.2 g1).2.1 g3).2 g4).2⟩
    · refine v_aload_n O dX10_here_25 rfl 0 rfl ?_
      refine v_dup O dX10_here_26 rfl ?_
      refine v_get O dX10_here_27 fo_X10_175 sh_48 rfl rfl ?_
      refine v_iconst O dX10_here_30 kc_1 ?_
      refine v_iadd O dX10_here_31 ?_
      refine v_putI O dX10_here_32 fo_X10_175 fp_10_27 sh_48 rfl rfl rfl ?_
      refine v_goto O dX10_here_35 (tgt := 0) (by decide) ?_
      exact v_loc [0] rfl (e0 (sX X 48 27 ((X 48 27) + 1)) Y ((h.2 g1).2.2 g3))
set_option maxHeartbeats 4000000 in
set_option maxRecDepth 100000 in
theorem kX10_here_s {Γ : Cxt} {Q : Int32 → XT → YT → Prop} (O : Ok Γ RX10 cX10_here 1 { frames := 0, cells := 0, slots := 0, locals := 0 }) (r : Ret Γ (some .int) (qI Q)) {I0 : XT → YT → Prop} (e0 : ∀ (X : XT) (Y : YT), I0 X Y → V Γ 0 [(0, .ref 48)] [] X Y) {X : XT} {Y : YT} (h : BX10_here_s I0 Q X Y) : V Γ 0 [(0, .ref 48)] [] X Y := by
  refine v_aload_n O dX10_here_0 rfl 0 rfl ?_
  refine v_get O dX10_here_1 fo_X10_175 sh_48 rfl rfl ?_
  refine v_aload_n O dX10_here_4 rfl 0 rfl ?_
  refine v_get O dX10_here_5 fo_X10_118 sh_48 rfl rfl ?_
  refine v_icmp_ge (tgt := 38) O dX10_here_8 (by decide) (fun g1 => ?_) (fun g1 => ?_)
  · refine v_aload_n O dX10_here_38 rfl 0 rfl ?_
    refine v_get O dX10_here_39 fo_X10_175 sh_48 rfl rfl ?_
    refine v_aload_n O dX10_here_42 rfl 0 rfl ?_
    refine v_get O dX10_here_43 fo_X10_118 sh_48 rfl rfl ?_
    refine v_icmp_ge (tgt := 61) O dX10_here_46 (by decide) (fun g2 => ?_) (fun g2 => ?_)
    · refine v_iconst O dX10_here_61 kc_m1 ?_
      exact v_iret O r dX10_here_62 ⟨_, rfl, ((h.1 g1).1 g2)⟩
    · refine v_aload_n O dX10_here_49 rfl 0 rfl ?_
      refine v_get O dX10_here_50 fo_X10_34 sh_48 rfl rfl ?_
      refine v_aload_n O dX10_here_53 rfl 0 rfl ?_
      refine v_get O dX10_here_54 fo_X10_175 sh_48 rfl rfl ?_
      refine v_iald O dX10_here_57 sh_57 ((h.1 g1).2 g2).1 ?_
      refine v_goto O dX10_here_58 (tgt := 62) (by decide) ?_
      exact v_iret O r dX10_here_62 ⟨_, rfl, ((h.1 g1).2 g2).2⟩
  · refine v_aload_n O dX10_here_11 rfl 0 rfl ?_
    refine v_get O dX10_here_12 fo_X10_34 sh_48 rfl rfl ?_
    refine v_aload_n O dX10_here_15 rfl 0 rfl ?_
    refine v_get O dX10_here_16 fo_X10_175 sh_48 rfl rfl ?_
    refine v_iald O dX10_here_19 sh_57 (h.2 g1).1 ?_
    refine v_bipush O dX10_here_20 kb_32 ?_
    refine v_icmp_ne (tgt := 38) O dX10_here_22 (by decide) (fun g3 => ?_) (fun g3 => ?_)
    · refine v_aload_n O dX10_here_38 rfl 0 rfl ?_
      refine v_get O dX10_here_39 fo_X10_175 sh_48 rfl rfl ?_
      refine v_aload_n O dX10_here_42 rfl 0 rfl ?_
      refine v_get O dX10_here_43 fo_X10_118 sh_48 rfl rfl ?_
      refine v_icmp_ge (tgt := 61) O dX10_here_46 (by decide) (fun g4 => ?_) (fun g4 => ?_)
      · refine v_iconst O dX10_here_61 kc_m1 ?_
        exact v_iret O r dX10_here_62 ⟨_, rfl, (((h.2 g1).2.1 g3).1 g4)⟩
      · refine v_aload_n O dX10_here_49 rfl 0 rfl ?_
        refine v_get O dX10_here_50 fo_X10_34 sh_48 rfl rfl ?_
        refine v_aload_n O dX10_here_53 rfl 0 rfl ?_
        refine v_get O dX10_here_54 fo_X10_175 sh_48 rfl rfl ?_
        refine v_iald O dX10_here_57 sh_57 (((h.2 g1).2.1 g3).2 g4).1 ?_
        refine v_goto O dX10_here_58 (tgt := 62) (by decide) ?_
        exact v_iret O r dX10_here_62 ⟨_, rfl, (((h.2 g1).2.1 g3).2 g4).2⟩
    · refine v_aload_n O dX10_here_25 rfl 0 rfl ?_
      refine v_dup O dX10_here_26 rfl ?_
      refine v_get O dX10_here_27 fo_X10_175 sh_48 rfl rfl ?_
      refine v_iconst O dX10_here_30 kc_1 ?_
      refine v_iadd O dX10_here_31 ?_
      refine v_putI O dX10_here_32 fo_X10_175 fp_10_27 sh_48 rfl rfl rfl ?_
      refine v_goto O dX10_here_35 (tgt := 0) (by decide) ?_
      exact v_loc [0] rfl (e0 (sX X 48 27 ((X 48 27) + 1)) Y ((h.2 g1).2.2 g3))
set_option maxRecDepth 100000 in
theorem mX10_here {Γ : Cxt} {X : XT} {Y : YT} {Q : Int32 → XT → YT → Prop} (h : PX10_here X Y Q) : MT Γ yX10_here (.code yX10_here cX10_here 1 (some .int) :: wl) { frames := 0, cells := 0, slots := 0, locals := 0 } [.ref 48] X Y (qI Q) :=
  mt_of (by decide) (Nat.le_of_ble_eq_true rfl) (fun Γ _ O r => kX10_here_s O r (fun  _ _ g => g) (h (fun X Y => V Γ 0 [(0, .ref 48)] [] X Y) (fun  _ _ g => kX10_here_0 O r (fun  _ _ g => g) g)))
theorem dX10_want_0 : decode cX10_want 0 = .ok (.iload_n 1, 1) := by decide +kernel
theorem dX10_want_1 : decode cX10_want 1 = .ok (.ifCond .ne 20, 3) := by decide +kernel
theorem dX10_want_4 : decode cX10_want 4 = .ok (.aload_n 0, 1) := by decide +kernel
theorem dX10_want_5 : decode cX10_want 5 = .ok (.getfield 178, 3) := by decide +kernel
theorem dX10_want_8 : decode cX10_want 8 = .ok (.ifCond .ne 13, 3) := by decide +kernel
theorem dX10_want_11 : decode cX10_want 11 = .ok (.aload_n 0, 1) := by decide +kernel
theorem dX10_want_12 : decode cX10_want 12 = .ok (.iload_n 2, 1) := by decide +kernel
theorem dX10_want_13 : decode cX10_want 13 = .ok (.putfield 178, 3) := by decide +kernel
theorem dX10_want_16 : decode cX10_want 16 = .ok (.aload_n 0, 1) := by decide +kernel
theorem dX10_want_17 : decode cX10_want 17 = .ok (.iload_n 3, 1) := by decide +kernel
theorem dX10_want_18 : decode cX10_want 18 = .ok (.putfield 67, 3) := by decide +kernel
theorem dX10_want_21 : decode cX10_want 21 = .ok (.aload_n 0, 1) := by decide +kernel
theorem dX10_want_22 : decode cX10_want 22 = .ok (.getfield 178, 3) := by decide +kernel
theorem dX10_want_25 : decode cX10_want 25 = .ok (.ifCond .ne 7, 3) := by decide +kernel
theorem dX10_want_28 : decode cX10_want 28 = .ok (.iconst 1, 1) := by decide +kernel
theorem dX10_want_29 : decode cX10_want 29 = .ok (.goto 4, 3) := by decide +kernel
theorem dX10_want_32 : decode cX10_want 32 = .ok (.iconst 0, 1) := by decide +kernel
theorem dX10_want_33 : decode cX10_want 33 = .ok (.ireturn, 1) := by decide +kernel
def BX10_want_s (Q : Int32 → XT → YT → Prop) (p0 : Int32) (p1 : Int32) (p2 : Int32) (X : XT) (Y : YT) : Prop :=
  ((¬ p0 = 0 → ((¬ (X 48 30) = 0 → Q 0 X Y) ∧ ((X 48 30) = 0 → Q 1 X Y))) ∧ (p0 = 0 → ((¬ (X 48 30) = 0 → ((¬ (X 48 30) = 0 → Q 0 X Y) ∧ ((X 48 30) = 0 → Q 1 X Y))) ∧ ((X 48 30) = 0 → ((¬ ((sX (sX X 48 30 p1) 48 31 p2) 48 30) = 0 → Q 0 (sX (sX X 48 30 p1) 48 31 p2) Y) ∧ (((sX (sX X 48 30 p1) 48 31 p2) 48 30) = 0 → Q 1 (sX (sX X 48 30 p1) 48 31 p2) Y))))))
def PX10_want (p0 : Int32) (p1 : Int32) (p2 : Int32) (X : XT) (Y : YT) (Q : Int32 → XT → YT → Prop) : Prop :=  BX10_want_s Q p0 p1 p2 X Y
set_option maxHeartbeats 4000000 in
set_option maxRecDepth 100000 in
theorem kX10_want_s {Γ : Cxt} {Q : Int32 → XT → YT → Prop} (O : Ok Γ RX10 cX10_want 4 { frames := 0, cells := 0, slots := 0, locals := 0 }) (r : Ret Γ (some .boolean) (qI Q)) {p0 : Int32} {p1 : Int32} {p2 : Int32} {X : XT} {Y : YT} (h : BX10_want_s Q p0 p1 p2 X Y) : V Γ 0 [(0, .ref 48), (1, .int p0), (2, .int p1), (3, .int p2)] [] X Y := by
  refine v_iload_n O dX10_want_0 rfl 1 rfl ?_
  refine v_if_ne (tgt := 21) O dX10_want_1 (by decide) (fun g1 => ?_) (fun g1 => ?_)
  · refine v_aload_n O dX10_want_21 rfl 0 rfl ?_
    refine v_get O dX10_want_22 fo_X10_178 sh_48 rfl rfl ?_
    refine v_if_ne (tgt := 32) O dX10_want_25 (by decide) (fun g2 => ?_) (fun g2 => ?_)
    · refine v_iconst O dX10_want_32 kc_0 ?_
      exact v_zret O r dX10_want_33 (by decide) ⟨_, rfl, ((h.1 g1).1 g2)⟩
    · refine v_iconst O dX10_want_28 kc_1 ?_
      refine v_goto O dX10_want_29 (tgt := 33) (by decide) ?_
      exact v_zret O r dX10_want_33 (by decide) ⟨_, rfl, ((h.1 g1).2 g2)⟩
  · refine v_aload_n O dX10_want_4 rfl 0 rfl ?_
    refine v_get O dX10_want_5 fo_X10_178 sh_48 rfl rfl ?_
    refine v_if_ne (tgt := 21) O dX10_want_8 (by decide) (fun g3 => ?_) (fun g3 => ?_)
    · refine v_aload_n O dX10_want_21 rfl 0 rfl ?_
      refine v_get O dX10_want_22 fo_X10_178 sh_48 rfl rfl ?_
      refine v_if_ne (tgt := 32) O dX10_want_25 (by decide) (fun g4 => ?_) (fun g4 => ?_)
      · refine v_iconst O dX10_want_32 kc_0 ?_
        exact v_zret O r dX10_want_33 (by decide) ⟨_, rfl, (((h.2 g1).1 g3).1 g4)⟩
      · refine v_iconst O dX10_want_28 kc_1 ?_
        refine v_goto O dX10_want_29 (tgt := 33) (by decide) ?_
        exact v_zret O r dX10_want_33 (by decide) ⟨_, rfl, (((h.2 g1).1 g3).2 g4)⟩
    · refine v_aload_n O dX10_want_11 rfl 0 rfl ?_
      refine v_iload_n O dX10_want_12 rfl 2 rfl ?_
      refine v_putI O dX10_want_13 fo_X10_178 fp_10_30 sh_48 rfl rfl rfl ?_
      refine v_aload_n O dX10_want_16 rfl 0 rfl ?_
      refine v_iload_n O dX10_want_17 rfl 3 rfl ?_
      refine v_putI O dX10_want_18 fo_X10_67 fp_10_31 sh_48 rfl rfl rfl ?_
      refine v_aload_n O dX10_want_21 rfl 0 rfl ?_
      refine v_get O dX10_want_22 fo_X10_178 sh_48 rfl rfl ?_
      refine v_if_ne (tgt := 32) O dX10_want_25 (by decide) (fun g5 => ?_) (fun g5 => ?_)
      · refine v_iconst O dX10_want_32 kc_0 ?_
        exact v_zret O r dX10_want_33 (by decide) ⟨_, rfl, (((h.2 g1).2 g3).1 g5)⟩
      · refine v_iconst O dX10_want_28 kc_1 ?_
        refine v_goto O dX10_want_29 (tgt := 33) (by decide) ?_
        exact v_zret O r dX10_want_33 (by decide) ⟨_, rfl, (((h.2 g1).2 g3).2 g5)⟩
set_option maxRecDepth 100000 in
theorem mX10_want {Γ : Cxt} {p0 : Int32} {p1 : Int32} {p2 : Int32} {X : XT} {Y : YT} {Q : Int32 → XT → YT → Prop} (h : PX10_want p0 p1 p2 X Y Q) : MT Γ yX10_want (.code yX10_want cX10_want 4 (some .boolean) :: wl) { frames := 0, cells := 0, slots := 0, locals := 0 } [.ref 48, .int p0, .int p1, .int p2] X Y (qI Q) :=
  mt_of (by decide) (Nat.le_of_ble_eq_true rfl) (fun Γ _ O r => kX10_want_s O r  (h ))
theorem dX10_takeWord_0 : decode cX10_takeWord 0 = .ok (.aload_n 0, 1) := by decide +kernel
theorem dX10_takeWord_1 : decode cX10_takeWord 1 = .ok (.invokevirtual 181, 3) := by decide +kernel
theorem dX10_takeWord_4 : decode cX10_takeWord 4 = .ok (.istore_n 1, 1) := by decide +kernel
theorem dX10_takeWord_5 : decode cX10_takeWord 5 = .ok (.aload_n 0, 1) := by decide +kernel
theorem dX10_takeWord_6 : decode cX10_takeWord 6 = .ok (.aload_n 0, 1) := by decide +kernel
theorem dX10_takeWord_7 : decode cX10_takeWord 7 = .ok (.getfield 175, 3) := by decide +kernel
theorem dX10_takeWord_10 : decode cX10_takeWord 10 = .ok (.putfield 184, 3) := by decide +kernel
theorem dX10_takeWord_13 : decode cX10_takeWord 13 = .ok (.aload_n 0, 1) := by decide +kernel
theorem dX10_takeWord_14 : decode cX10_takeWord 14 = .ok (.getfield 175, 3) := by decide +kernel
theorem dX10_takeWord_17 : decode cX10_takeWord 17 = .ok (.aload_n 0, 1) := by decide +kernel
theorem dX10_takeWord_18 : decode cX10_takeWord 18 = .ok (.getfield 118, 3) := by decide +kernel
theorem dX10_takeWord_21 : decode cX10_takeWord 21 = .ok (.if_icmp .ge 38, 3) := by decide +kernel
theorem dX10_takeWord_24 : decode cX10_takeWord 24 = .ok (.aload_n 0, 1) := by decide +kernel
theorem dX10_takeWord_25 : decode cX10_takeWord 25 = .ok (.getfield 34, 3) := by decide +kernel
theorem dX10_takeWord_28 : decode cX10_takeWord 28 = .ok (.aload_n 0, 1) := by decide +kernel
theorem dX10_takeWord_29 : decode cX10_takeWord 29 = .ok (.getfield 175, 3) := by decide +kernel
theorem dX10_takeWord_32 : decode cX10_takeWord 32 = .ok (.iaload, 1) := by decide +kernel
theorem dX10_takeWord_33 : decode cX10_takeWord 33 = .ok (.i2l, 1) := by decide +kernel
theorem dX10_takeWord_34 : decode cX10_takeWord 34 = .ok (.ldc2_w 128, 3) := by decide +kernel
theorem dX10_takeWord_37 : decode cX10_takeWord 37 = .ok (.ldc2_w 130, 3) := by decide +kernel
theorem dX10_takeWord_40 : decode cX10_takeWord 40 = .ok (.invokestatic 108, 3) := by decide +kernel
theorem dX10_takeWord_43 : decode cX10_takeWord 43 = .ok (.ifCond .eq 16, 3) := by decide +kernel
theorem dX10_takeWord_46 : decode cX10_takeWord 46 = .ok (.aload_n 0, 1) := by decide +kernel
theorem dX10_takeWord_47 : decode cX10_takeWord 47 = .ok (.dup, 1) := by decide +kernel
theorem dX10_takeWord_48 : decode cX10_takeWord 48 = .ok (.getfield 175, 3) := by decide +kernel
theorem dX10_takeWord_51 : decode cX10_takeWord 51 = .ok (.iconst 1, 1) := by decide +kernel
theorem dX10_takeWord_52 : decode cX10_takeWord 52 = .ok (.iadd, 1) := by decide +kernel
theorem dX10_takeWord_53 : decode cX10_takeWord 53 = .ok (.putfield 175, 3) := by decide +kernel
theorem dX10_takeWord_56 : decode cX10_takeWord 56 = .ok (.goto (-43), 3) := by decide +kernel
theorem dX10_takeWord_59 : decode cX10_takeWord 59 = .ok (.aload_n 0, 1) := by decide +kernel
theorem dX10_takeWord_60 : decode cX10_takeWord 60 = .ok (.aload_n 0, 1) := by decide +kernel
theorem dX10_takeWord_61 : decode cX10_takeWord 61 = .ok (.getfield 175, 3) := by decide +kernel
theorem dX10_takeWord_64 : decode cX10_takeWord 64 = .ok (.aload_n 0, 1) := by decide +kernel
theorem dX10_takeWord_65 : decode cX10_takeWord 65 = .ok (.getfield 184, 3) := by decide +kernel
theorem dX10_takeWord_68 : decode cX10_takeWord 68 = .ok (.isub, 1) := by decide +kernel
theorem dX10_takeWord_69 : decode cX10_takeWord 69 = .ok (.putfield 187, 3) := by decide +kernel
theorem dX10_takeWord_72 : decode cX10_takeWord 72 = .ok (.return_, 1) := by decide +kernel
def BX10_takeWord_13 (I13 : XT → YT → Prop) (Q : XT → YT → Prop) (X : XT) (Y : YT) : Prop :=
  (((X 48 12) ≤ (X 48 27) → Q (sX X 48 29 ((X 48 27) - (X 48 28))) Y) ∧ (¬ (X 48 12) ≤ (X 48 27) → vp_in (X 48 27) 120 ∧ PX10_in ((X 57 (X 48 27).toNatClampNeg).toInt64) (97 : Int64) (122 : Int64) X Y (fun r2 X3 Y4 => ((r2 = 0 → Q (sX X3 48 29 ((X3 48 27) - (X3 48 28))) Y4) ∧ (¬ r2 = 0 → I13 (sX X3 48 27 ((X3 48 27) + 1)) Y4)))))
def BX10_takeWord_s (I13 : XT → YT → Prop) (Q : XT → YT → Prop) (X : XT) (Y : YT) : Prop :=
  PX10_here X Y (fun r1 X2 Y3 => I13 (sX X2 48 28 (X2 48 27)) Y3)
def PX10_takeWord (X : XT) (Y : YT) (Q : XT → YT → Prop) : Prop := ∀ (I13 : XT → YT → Prop), (∀ (X : XT) (Y : YT), BX10_takeWord_13 I13 Q X Y → I13 X Y) → BX10_takeWord_s I13 Q X Y
set_option maxHeartbeats 4000000 in
set_option maxRecDepth 100000 in
theorem kX10_takeWord_13 {Γ : Cxt} {Q : XT → YT → Prop} (O : Ok Γ RX10 cX10_takeWord 2 { frames := 1, cells := 0, slots := 0, locals := 25 }) (r : Ret Γ none (qV Q)) {I13 : XT → YT → Prop} (e13 : ∀ (X : XT) (Y : YT), I13 X Y → V Γ 13 [(0, .ref 48)] [] X Y) {X : XT} {Y : YT} (h : BX10_takeWord_13 I13 Q X Y) : V Γ 13 [(0, .ref 48)] [] X Y := by
  refine v_aload_n O dX10_takeWord_13 rfl 0 rfl ?_
  refine v_get O dX10_takeWord_14 fo_X10_175 sh_48 rfl rfl ?_
  refine v_aload_n O dX10_takeWord_17 rfl 0 rfl ?_
  refine v_get O dX10_takeWord_18 fo_X10_118 sh_48 rfl rfl ?_
  refine v_icmp_ge (tgt := 59) O dX10_takeWord_21 (by decide) (fun g1 => ?_) (fun g1 => ?_)
  · refine v_aload_n O dX10_takeWord_59 rfl 0 rfl ?_
    refine v_aload_n O dX10_takeWord_60 rfl 0 rfl ?_
    refine v_get O dX10_takeWord_61 fo_X10_175 sh_48 rfl rfl ?_
    refine v_aload_n O dX10_takeWord_64 rfl 0 rfl ?_
    refine v_get O dX10_takeWord_65 fo_X10_184 sh_48 rfl rfl ?_
    refine v_isub O dX10_takeWord_68 ?_
    refine v_putI O dX10_takeWord_69 fo_X10_187 fp_10_29 sh_48 rfl rfl rfl ?_
    exact v_vret O r dX10_takeWord_72 ⟨rfl, (h.1 g1)⟩
  · refine v_aload_n O dX10_takeWord_24 rfl 0 rfl ?_
    refine v_get O dX10_takeWord_25 fo_X10_34 sh_48 rfl rfl ?_
    refine v_aload_n O dX10_takeWord_28 rfl 0 rfl ?_
    refine v_get O dX10_takeWord_29 fo_X10_175 sh_48 rfl rfl ?_
    refine v_iald O dX10_takeWord_32 sh_57 (h.2 g1).1 ?_
    refine v_i2l O dX10_takeWord_33 ?_
    refine v_ldc2 O dX10_takeWord_34 kl_X10_128 ?_
    refine v_ldc2 O dX10_takeWord_37 kl_X10_130 ?_
    refine v_callS (rm' := { frames := 0, cells := 0, slots := 0, locals := 0 }) (As := [.long ((X 57 (X 48 27).toNatClampNeg).toInt64), .long (97 : Int64), .long (122 : Int64)]) (st := []) O dX10_takeWord_40 ci_X10_in ml_X10_108 ms_X10_in ⟨rfl, rfl, (by decide), (by decide)⟩ rfl (Nat.le_of_ble_eq_true rfl) rfl (mX10_in (h.2 g1).2) (k_I (fun r2 X3 Y4 h5 => ?_))
    refine v_if_eq (tgt := 59) O dX10_takeWord_43 (by decide) (fun g6 => ?_) (fun g6 => ?_)
    · refine v_aload_n O dX10_takeWord_59 rfl 0 rfl ?_
      refine v_aload_n O dX10_takeWord_60 rfl 0 rfl ?_
      refine v_get O dX10_takeWord_61 fo_X10_175 sh_48 rfl rfl ?_
      refine v_aload_n O dX10_takeWord_64 rfl 0 rfl ?_
      refine v_get O dX10_takeWord_65 fo_X10_184 sh_48 rfl rfl ?_
      refine v_isub O dX10_takeWord_68 ?_
      refine v_putI O dX10_takeWord_69 fo_X10_187 fp_10_29 sh_48 rfl rfl rfl ?_
      exact v_vret O r dX10_takeWord_72 ⟨rfl, (h5.1 g6)⟩
    · refine v_aload_n O dX10_takeWord_46 rfl 0 rfl ?_
      refine v_dup O dX10_takeWord_47 rfl ?_
      refine v_get O dX10_takeWord_48 fo_X10_175 sh_48 rfl rfl ?_
      refine v_iconst O dX10_takeWord_51 kc_1 ?_
      refine v_iadd O dX10_takeWord_52 ?_
      refine v_putI O dX10_takeWord_53 fo_X10_175 fp_10_27 sh_48 rfl rfl rfl ?_
      refine v_goto O dX10_takeWord_56 (tgt := 13) (by decide) ?_
      exact v_loc [0] rfl (e13 (sX X3 48 27 ((X3 48 27) + 1)) Y4 (h5.2 g6))
set_option maxHeartbeats 4000000 in
set_option maxRecDepth 100000 in
theorem kX10_takeWord_s {Γ : Cxt} {Q : XT → YT → Prop} (O : Ok Γ RX10 cX10_takeWord 2 { frames := 1, cells := 0, slots := 0, locals := 25 }) (r : Ret Γ none (qV Q)) {I13 : XT → YT → Prop} (e13 : ∀ (X : XT) (Y : YT), I13 X Y → V Γ 13 [(0, .ref 48)] [] X Y) {X : XT} {Y : YT} (h : BX10_takeWord_s I13 Q X Y) : V Γ 0 [(0, .ref 48)] [] X Y := by
  refine v_aload_n O dX10_takeWord_0 rfl 0 rfl ?_
  refine v_callV (rm' := { frames := 0, cells := 0, slots := 0, locals := 0 }) (As := []) (st := []) O dX10_takeWord_1 ci_X10_here ml_X10_181 mi_X10_here sh_48 rfl ⟨rfl, rfl, (by decide), (by decide)⟩ rfl (Nat.le_of_ble_eq_true rfl) rfl (mX10_here h) (k_I (fun r1 X2 Y3 h4 => ?_))
  refine v_istore_n (lv' := [(1, .int r1), (0, .ref 48)]) O dX10_takeWord_4 rfl (by decide) rfl ?_
  refine v_aload_n O dX10_takeWord_5 rfl 1 rfl ?_
  refine v_aload_n O dX10_takeWord_6 rfl 1 rfl ?_
  refine v_get O dX10_takeWord_7 fo_X10_175 sh_48 rfl rfl ?_
  refine v_putI O dX10_takeWord_10 fo_X10_184 fp_10_28 sh_48 rfl rfl rfl ?_
  exact v_loc [1] rfl (e13 (sX X2 48 28 (X2 48 27)) Y3 h4)
set_option maxRecDepth 100000 in
theorem mX10_takeWord {Γ : Cxt} {X : XT} {Y : YT} {Q : XT → YT → Prop} (h : PX10_takeWord X Y Q) : MT Γ yX10_takeWord (.code yX10_takeWord cX10_takeWord 2 none :: wl) { frames := 1, cells := 0, slots := 0, locals := 25 } [.ref 48] X Y (qV Q) :=
  mt_of (by decide) (Nat.le_of_ble_eq_true rfl) (fun Γ _ O r => kX10_takeWord_s O r (fun  _ _ g => g) (h (fun X Y => V Γ 13 [(0, .ref 48)] [] X Y) (fun  _ _ g => kX10_takeWord_13 O r (fun  _ _ g => g) g)))
theorem dX10_isWord_0 : decode cX10_isWord 0 = .ok (.aload_n 0, 1) := by decide +kernel
theorem dX10_isWord_1 : decode cX10_isWord 1 = .ok (.getfield 187, 3) := by decide +kernel
theorem dX10_isWord_4 : decode cX10_isWord 4 = .ok (.iload_n 1, 1) := by decide +kernel
theorem dX10_isWord_5 : decode cX10_isWord 5 = .ok (.if_icmp .ne 7, 3) := by decide +kernel
theorem dX10_isWord_8 : decode cX10_isWord 8 = .ok (.iconst 1, 1) := by decide +kernel
theorem dX10_isWord_9 : decode cX10_isWord 9 = .ok (.goto 4, 3) := by decide +kernel
theorem dX10_isWord_12 : decode cX10_isWord 12 = .ok (.iconst 0, 1) := by decide +kernel
theorem dX10_isWord_13 : decode cX10_isWord 13 = .ok (.istore 8, 2) := by decide +kernel
theorem dX10_isWord_15 : decode cX10_isWord 15 = .ok (.iconst 0, 1) := by decide +kernel
theorem dX10_isWord_16 : decode cX10_isWord 16 = .ok (.istore 9, 2) := by decide +kernel
theorem dX10_isWord_18 : decode cX10_isWord 18 = .ok (.iload 9, 2) := by decide +kernel
theorem dX10_isWord_20 : decode cX10_isWord 20 = .ok (.iload_n 1, 1) := by decide +kernel
theorem dX10_isWord_21 : decode cX10_isWord 21 = .ok (.if_icmp .ge 90, 3) := by decide +kernel
theorem dX10_isWord_24 : decode cX10_isWord 24 = .ok (.iload 8, 2) := by decide +kernel
theorem dX10_isWord_26 : decode cX10_isWord 26 = .ok (.ifCond .eq 85, 3) := by decide +kernel
theorem dX10_isWord_29 : decode cX10_isWord 29 = .ok (.aload_n 0, 1) := by decide +kernel
theorem dX10_isWord_30 : decode cX10_isWord 30 = .ok (.getfield 34, 3) := by decide +kernel
theorem dX10_isWord_33 : decode cX10_isWord 33 = .ok (.aload_n 0, 1) := by decide +kernel
theorem dX10_isWord_34 : decode cX10_isWord 34 = .ok (.getfield 184, 3) := by decide +kernel
theorem dX10_isWord_37 : decode cX10_isWord 37 = .ok (.iload 9, 2) := by decide +kernel
theorem dX10_isWord_39 : decode cX10_isWord 39 = .ok (.iadd, 1) := by decide +kernel
theorem dX10_isWord_40 : decode cX10_isWord 40 = .ok (.iaload, 1) := by decide +kernel
theorem dX10_isWord_41 : decode cX10_isWord 41 = .ok (.iload 9, 2) := by decide +kernel
theorem dX10_isWord_43 : decode cX10_isWord 43 = .ok (.ifCond .ne 7, 3) := by decide +kernel
theorem dX10_isWord_46 : decode cX10_isWord 46 = .ok (.iload_n 2, 1) := by decide +kernel
theorem dX10_isWord_47 : decode cX10_isWord 47 = .ok (.goto 48, 3) := by decide +kernel
theorem dX10_isWord_50 : decode cX10_isWord 50 = .ok (.iload 9, 2) := by decide +kernel
theorem dX10_isWord_52 : decode cX10_isWord 52 = .ok (.iconst 1, 1) := by decide +kernel
theorem dX10_isWord_53 : decode cX10_isWord 53 = .ok (.if_icmp .ne 7, 3) := by decide +kernel
theorem dX10_isWord_56 : decode cX10_isWord 56 = .ok (.iload_n 3, 1) := by decide +kernel
theorem dX10_isWord_57 : decode cX10_isWord 57 = .ok (.goto 38, 3) := by decide +kernel
theorem dX10_isWord_60 : decode cX10_isWord 60 = .ok (.iload 9, 2) := by decide +kernel
theorem dX10_isWord_62 : decode cX10_isWord 62 = .ok (.iconst 2, 1) := by decide +kernel
theorem dX10_isWord_63 : decode cX10_isWord 63 = .ok (.if_icmp .ne 8, 3) := by decide +kernel
theorem dX10_isWord_66 : decode cX10_isWord 66 = .ok (.iload 4, 2) := by decide +kernel
theorem dX10_isWord_68 : decode cX10_isWord 68 = .ok (.goto 27, 3) := by decide +kernel
theorem dX10_isWord_71 : decode cX10_isWord 71 = .ok (.iload 9, 2) := by decide +kernel
theorem dX10_isWord_73 : decode cX10_isWord 73 = .ok (.iconst 3, 1) := by decide +kernel
theorem dX10_isWord_74 : decode cX10_isWord 74 = .ok (.if_icmp .ne 8, 3) := by decide +kernel
theorem dX10_isWord_77 : decode cX10_isWord 77 = .ok (.iload 5, 2) := by decide +kernel
theorem dX10_isWord_79 : decode cX10_isWord 79 = .ok (.goto 16, 3) := by decide +kernel
theorem dX10_isWord_82 : decode cX10_isWord 82 = .ok (.iload 9, 2) := by decide +kernel
theorem dX10_isWord_84 : decode cX10_isWord 84 = .ok (.iconst 4, 1) := by decide +kernel
theorem dX10_isWord_85 : decode cX10_isWord 85 = .ok (.if_icmp .ne 8, 3) := by decide +kernel
theorem dX10_isWord_88 : decode cX10_isWord 88 = .ok (.iload 6, 2) := by decide +kernel
theorem dX10_isWord_90 : decode cX10_isWord 90 = .ok (.goto 5, 3) := by decide +kernel
theorem dX10_isWord_93 : decode cX10_isWord 93 = .ok (.iload 7, 2) := by decide +kernel
theorem dX10_isWord_95 : decode cX10_isWord 95 = .ok (.if_icmp .ne 7, 3) := by decide +kernel
theorem dX10_isWord_98 : decode cX10_isWord 98 = .ok (.iconst 1, 1) := by decide +kernel
theorem dX10_isWord_99 : decode cX10_isWord 99 = .ok (.goto 4, 3) := by decide +kernel
theorem dX10_isWord_102 : decode cX10_isWord 102 = .ok (.iconst 0, 1) := by decide +kernel
theorem dX10_isWord_103 : decode cX10_isWord 103 = .ok (.istore 8, 2) := by decide +kernel
theorem dX10_isWord_105 : decode cX10_isWord 105 = .ok (.iinc 9 1, 3) := by decide +kernel
theorem dX10_isWord_108 : decode cX10_isWord 108 = .ok (.goto (-90), 3) := by decide +kernel
theorem dX10_isWord_111 : decode cX10_isWord 111 = .ok (.iload 8, 2) := by decide +kernel
theorem dX10_isWord_113 : decode cX10_isWord 113 = .ok (.ireturn, 1) := by decide +kernel
def BX10_isWord_18 (I18 : Int32 → Int32 → Int32 → Int32 → Int32 → Int32 → Int32 → Int32 → Int32 → XT → YT → Prop) (Q : Int32 → XT → YT → Prop) (a1 : Int32) (a2 : Int32) (a3 : Int32) (a4 : Int32) (a5 : Int32) (a6 : Int32) (a7 : Int32) (a8 : Int32) (a9 : Int32) (X : XT) (Y : YT) : Prop :=
  ((a1 ≤ a9 → narrow .boolean (.int a8) = .int a8 ∧ Q a8 X Y) ∧ (¬ a1 ≤ a9 → ((a8 = 0 → narrow .boolean (.int a8) = .int a8 ∧ Q a8 X Y) ∧ (¬ a8 = 0 → vp_in ((X 48 28) + a9) 120 ∧ ((¬ a9 = 0 → ((¬ a9 = 1 → ((¬ a9 = 2 → ((¬ a9 = 3 → ((¬ a9 = 4 → ((¬ (X 57 ((X 48 28) + a9).toNatClampNeg) = a7 → ∀ w9 : Int32, w9 = a9 + 1 → I18 a1 a2 a3 a4 a5 a6 a7 0 w9 X Y) ∧ ((X 57 ((X 48 28) + a9).toNatClampNeg) = a7 → ∀ w11 : Int32, w11 = a9 + 1 → I18 a1 a2 a3 a4 a5 a6 a7 1 w11 X Y))) ∧ (a9 = 4 → ((¬ (X 57 ((X 48 28) + a9).toNatClampNeg) = a6 → ∀ w14 : Int32, w14 = a9 + 1 → I18 a1 a2 a3 a4 a5 a6 a7 0 w14 X Y) ∧ ((X 57 ((X 48 28) + a9).toNatClampNeg) = a6 → ∀ w16 : Int32, w16 = a9 + 1 → I18 a1 a2 a3 a4 a5 a6 a7 1 w16 X Y))))) ∧ (a9 = 3 → ((¬ (X 57 ((X 48 28) + a9).toNatClampNeg) = a5 → ∀ w19 : Int32, w19 = a9 + 1 → I18 a1 a2 a3 a4 a5 a6 a7 0 w19 X Y) ∧ ((X 57 ((X 48 28) + a9).toNatClampNeg) = a5 → ∀ w21 : Int32, w21 = a9 + 1 → I18 a1 a2 a3 a4 a5 a6 a7 1 w21 X Y))))) ∧ (a9 = 2 → ((¬ (X 57 ((X 48 28) + a9).toNatClampNeg) = a4 → ∀ w24 : Int32, w24 = a9 + 1 → I18 a1 a2 a3 a4 a5 a6 a7 0 w24 X Y) ∧ ((X 57 ((X 48 28) + a9).toNatClampNeg) = a4 → ∀ w26 : Int32, w26 = a9 + 1 → I18 a1 a2 a3 a4 a5 a6 a7 1 w26 X Y))))) ∧ (a9 = 1 → ((¬ (X 57 ((X 48 28) + a9).toNatClampNeg) = a3 → ∀ w29 : Int32, w29 = a9 + 1 → I18 a1 a2 a3 a4 a5 a6 a7 0 w29 X Y) ∧ ((X 57 ((X 48 28) + a9).toNatClampNeg) = a3 → ∀ w31 : Int32, w31 = a9 + 1 → I18 a1 a2 a3 a4 a5 a6 a7 1 w31 X Y))))) ∧ (a9 = 0 → ((¬ (X 57 ((X 48 28) + a9).toNatClampNeg) = a2 → ∀ w34 : Int32, w34 = a9 + 1 → I18 a1 a2 a3 a4 a5 a6 a7 0 w34 X Y) ∧ ((X 57 ((X 48 28) + a9).toNatClampNeg) = a2 → ∀ w36 : Int32, w36 = a9 + 1 → I18 a1 a2 a3 a4 a5 a6 a7 1 w36 X Y))))))))
def BX10_isWord_s (I18 : Int32 → Int32 → Int32 → Int32 → Int32 → Int32 → Int32 → Int32 → Int32 → XT → YT → Prop) (Q : Int32 → XT → YT → Prop) (p0 : Int32) (p1 : Int32) (p2 : Int32) (p3 : Int32) (p4 : Int32) (p5 : Int32) (p6 : Int32) (X : XT) (Y : YT) : Prop :=
  ((¬ (X 48 29) = p0 → I18 p0 p1 p2 p3 p4 p5 p6 0 0 X Y) ∧ ((X 48 29) = p0 → I18 p0 p1 p2 p3 p4 p5 p6 1 0 X Y))
def PX10_isWord (p0 : Int32) (p1 : Int32) (p2 : Int32) (p3 : Int32) (p4 : Int32) (p5 : Int32) (p6 : Int32) (X : XT) (Y : YT) (Q : Int32 → XT → YT → Prop) : Prop := ∀ (I18 : Int32 → Int32 → Int32 → Int32 → Int32 → Int32 → Int32 → Int32 → Int32 → XT → YT → Prop), (∀ (a1 : Int32) (a2 : Int32) (a3 : Int32) (a4 : Int32) (a5 : Int32) (a6 : Int32) (a7 : Int32) (a8 : Int32) (a9 : Int32) (X : XT) (Y : YT), BX10_isWord_18 I18 Q a1 a2 a3 a4 a5 a6 a7 a8 a9 X Y → I18 a1 a2 a3 a4 a5 a6 a7 a8 a9 X Y) → BX10_isWord_s I18 Q p0 p1 p2 p3 p4 p5 p6 X Y
set_option maxHeartbeats 4000000 in
set_option maxRecDepth 100000 in
theorem kX10_isWord_18 {Γ : Cxt} {Q : Int32 → XT → YT → Prop} (O : Ok Γ RX10 cX10_isWord 10 { frames := 0, cells := 0, slots := 0, locals := 0 }) (r : Ret Γ (some .boolean) (qI Q)) {I18 : Int32 → Int32 → Int32 → Int32 → Int32 → Int32 → Int32 → Int32 → Int32 → XT → YT → Prop} (e18 : ∀ (a1 : Int32) (a2 : Int32) (a3 : Int32) (a4 : Int32) (a5 : Int32) (a6 : Int32) (a7 : Int32) (a8 : Int32) (a9 : Int32) (X : XT) (Y : YT), I18 a1 a2 a3 a4 a5 a6 a7 a8 a9 X Y → V Γ 18 [(0, .ref 48), (1, .int a1), (2, .int a2), (3, .int a3), (4, .int a4), (5, .int a5), (6, .int a6), (7, .int a7), (8, .int a8), (9, .int a9)] [] X Y) {a1 : Int32} {a2 : Int32} {a3 : Int32} {a4 : Int32} {a5 : Int32} {a6 : Int32} {a7 : Int32} {a8 : Int32} {a9 : Int32} {X : XT} {Y : YT} (h : BX10_isWord_18 I18 Q a1 a2 a3 a4 a5 a6 a7 a8 a9 X Y) : V Γ 18 [(0, .ref 48), (1, .int a1), (2, .int a2), (3, .int a3), (4, .int a4), (5, .int a5), (6, .int a6), (7, .int a7), (8, .int a8), (9, .int a9)] [] X Y := by
  refine v_iload O dX10_isWord_18 9 rfl ?_
  refine v_iload_n O dX10_isWord_20 rfl 1 rfl ?_
  refine v_icmp_ge (tgt := 111) O dX10_isWord_21 (by decide) (fun g1 => ?_) (fun g1 => ?_)
  · refine v_iload O dX10_isWord_111 8 rfl ?_
    exact v_zret O r dX10_isWord_113 (h.1 g1).1 ⟨_, rfl, (h.1 g1).2⟩
  · refine v_iload O dX10_isWord_24 8 rfl ?_
    refine v_if_eq (tgt := 111) O dX10_isWord_26 (by decide) (fun g2 => ?_) (fun g2 => ?_)
    · refine v_iload O dX10_isWord_111 8 rfl ?_
      exact v_zret O r dX10_isWord_113 ((h.2 g1).1 g2).1 ⟨_, rfl, ((h.2 g1).1 g2).2⟩
    · refine v_aload_n O dX10_isWord_29 rfl 0 rfl ?_
      refine v_get O dX10_isWord_30 fo_X10_34 sh_48 rfl rfl ?_
      refine v_aload_n O dX10_isWord_33 rfl 0 rfl ?_
      refine v_get O dX10_isWord_34 fo_X10_184 sh_48 rfl rfl ?_
      refine v_iload O dX10_isWord_37 9 rfl ?_
      refine v_iadd O dX10_isWord_39 ?_
      refine v_iald O dX10_isWord_40 sh_57 ((h.2 g1).2 g2).1 ?_
      refine v_iload O dX10_isWord_41 9 rfl ?_
      refine v_if_ne (tgt := 50) O dX10_isWord_43 (by decide) (fun g3 => ?_) (fun g3 => ?_)
      · refine v_iload O dX10_isWord_50 9 rfl ?_
        refine v_iconst O dX10_isWord_52 kc_1 ?_
        refine v_icmp_ne (tgt := 60) O dX10_isWord_53 (by decide) (fun g4 => ?_) (fun g4 => ?_)
        · refine v_iload O dX10_isWord_60 9 rfl ?_
          refine v_iconst O dX10_isWord_62 kc_2 ?_
          refine v_icmp_ne (tgt := 71) O dX10_isWord_63 (by decide) (fun g5 => ?_) (fun g5 => ?_)
          · refine v_iload O dX10_isWord_71 9 rfl ?_
            refine v_iconst O dX10_isWord_73 kc_3 ?_
            refine v_icmp_ne (tgt := 82) O dX10_isWord_74 (by decide) (fun g6 => ?_) (fun g6 => ?_)
            · refine v_iload O dX10_isWord_82 9 rfl ?_
              refine v_iconst O dX10_isWord_84 kc_4 ?_
              refine v_icmp_ne (tgt := 93) O dX10_isWord_85 (by decide) (fun g7 => ?_) (fun g7 => ?_)
              · refine v_iload O dX10_isWord_93 7 rfl ?_
                refine v_icmp_ne (tgt := 102) O dX10_isWord_95 (by decide) (fun g8 => ?_) (fun g8 => ?_)
                · refine v_iconst O dX10_isWord_102 kc_0 ?_
                  refine v_istore (lv' := [(8, .int 0), (0, .ref 48), (1, .int a1), (2, .int a2), (3, .int a3), (4, .int a4), (5, .int a5), (6, .int a6), (7, .int a7), (9, .int a9)]) O dX10_isWord_103 (by decide) rfl ?_
                  obtain ⟨w9, hw10⟩ : ∃ y : Int32, y = a9 + 1 := ⟨_, rfl⟩
                  refine v_iinc (v := w9) (j := 9) O dX10_isWord_105 rfl (by rw [hw10]; exact congrArg _ kc_1) (by decide) (lv' := [(9, .int w9), (8, .int 0), (0, .ref 48), (1, .int a1), (2, .int a2), (3, .int a3), (4, .int a4), (5, .int a5), (6, .int a6), (7, .int a7)]) rfl ?_
                  refine v_goto O dX10_isWord_108 (tgt := 18) (by decide) ?_
                  exact v_loc [2, 3, 4, 5, 6, 7, 8, 9, 1, 0] rfl (e18 a1 a2 a3 a4 a5 a6 a7 0 w9 X Y (((((((((h.2 g1).2 g2).2.1 g3).1 g4).1 g5).1 g6).1 g7).1 g8) w9 hw10))
                · refine v_iconst O dX10_isWord_98 kc_1 ?_
                  refine v_goto O dX10_isWord_99 (tgt := 103) (by decide) ?_
                  refine v_istore (lv' := [(8, .int 1), (0, .ref 48), (1, .int a1), (2, .int a2), (3, .int a3), (4, .int a4), (5, .int a5), (6, .int a6), (7, .int a7), (9, .int a9)]) O dX10_isWord_103 (by decide) rfl ?_
                  obtain ⟨w11, hw12⟩ : ∃ y : Int32, y = a9 + 1 := ⟨_, rfl⟩
                  refine v_iinc (v := w11) (j := 9) O dX10_isWord_105 rfl (by rw [hw12]; exact congrArg _ kc_1) (by decide) (lv' := [(9, .int w11), (8, .int 1), (0, .ref 48), (1, .int a1), (2, .int a2), (3, .int a3), (4, .int a4), (5, .int a5), (6, .int a6), (7, .int a7)]) rfl ?_
                  refine v_goto O dX10_isWord_108 (tgt := 18) (by decide) ?_
                  exact v_loc [2, 3, 4, 5, 6, 7, 8, 9, 1, 0] rfl (e18 a1 a2 a3 a4 a5 a6 a7 1 w11 X Y (((((((((h.2 g1).2 g2).2.1 g3).1 g4).1 g5).1 g6).1 g7).2 g8) w11 hw12))
              · refine v_iload O dX10_isWord_88 6 rfl ?_
                refine v_goto O dX10_isWord_90 (tgt := 95) (by decide) ?_
                refine v_icmp_ne (tgt := 102) O dX10_isWord_95 (by decide) (fun g13 => ?_) (fun g13 => ?_)
                · refine v_iconst O dX10_isWord_102 kc_0 ?_
                  refine v_istore (lv' := [(8, .int 0), (0, .ref 48), (1, .int a1), (2, .int a2), (3, .int a3), (4, .int a4), (5, .int a5), (6, .int a6), (7, .int a7), (9, .int a9)]) O dX10_isWord_103 (by decide) rfl ?_
                  obtain ⟨w14, hw15⟩ : ∃ y : Int32, y = a9 + 1 := ⟨_, rfl⟩
                  refine v_iinc (v := w14) (j := 9) O dX10_isWord_105 rfl (by rw [hw15]; exact congrArg _ kc_1) (by decide) (lv' := [(9, .int w14), (8, .int 0), (0, .ref 48), (1, .int a1), (2, .int a2), (3, .int a3), (4, .int a4), (5, .int a5), (6, .int a6), (7, .int a7)]) rfl ?_
                  refine v_goto O dX10_isWord_108 (tgt := 18) (by decide) ?_
                  exact v_loc [2, 3, 4, 5, 6, 7, 8, 9, 1, 0] rfl (e18 a1 a2 a3 a4 a5 a6 a7 0 w14 X Y (((((((((h.2 g1).2 g2).2.1 g3).1 g4).1 g5).1 g6).2 g7).1 g13) w14 hw15))
                · refine v_iconst O dX10_isWord_98 kc_1 ?_
                  refine v_goto O dX10_isWord_99 (tgt := 103) (by decide) ?_
                  refine v_istore (lv' := [(8, .int 1), (0, .ref 48), (1, .int a1), (2, .int a2), (3, .int a3), (4, .int a4), (5, .int a5), (6, .int a6), (7, .int a7), (9, .int a9)]) O dX10_isWord_103 (by decide) rfl ?_
                  obtain ⟨w16, hw17⟩ : ∃ y : Int32, y = a9 + 1 := ⟨_, rfl⟩
                  refine v_iinc (v := w16) (j := 9) O dX10_isWord_105 rfl (by rw [hw17]; exact congrArg _ kc_1) (by decide) (lv' := [(9, .int w16), (8, .int 1), (0, .ref 48), (1, .int a1), (2, .int a2), (3, .int a3), (4, .int a4), (5, .int a5), (6, .int a6), (7, .int a7)]) rfl ?_
                  refine v_goto O dX10_isWord_108 (tgt := 18) (by decide) ?_
                  exact v_loc [2, 3, 4, 5, 6, 7, 8, 9, 1, 0] rfl (e18 a1 a2 a3 a4 a5 a6 a7 1 w16 X Y (((((((((h.2 g1).2 g2).2.1 g3).1 g4).1 g5).1 g6).2 g7).2 g13) w16 hw17))
            · refine v_iload O dX10_isWord_77 5 rfl ?_
              refine v_goto O dX10_isWord_79 (tgt := 95) (by decide) ?_
              refine v_icmp_ne (tgt := 102) O dX10_isWord_95 (by decide) (fun g18 => ?_) (fun g18 => ?_)
              · refine v_iconst O dX10_isWord_102 kc_0 ?_
                refine v_istore (lv' := [(8, .int 0), (0, .ref 48), (1, .int a1), (2, .int a2), (3, .int a3), (4, .int a4), (5, .int a5), (6, .int a6), (7, .int a7), (9, .int a9)]) O dX10_isWord_103 (by decide) rfl ?_
                obtain ⟨w19, hw20⟩ : ∃ y : Int32, y = a9 + 1 := ⟨_, rfl⟩
                refine v_iinc (v := w19) (j := 9) O dX10_isWord_105 rfl (by rw [hw20]; exact congrArg _ kc_1) (by decide) (lv' := [(9, .int w19), (8, .int 0), (0, .ref 48), (1, .int a1), (2, .int a2), (3, .int a3), (4, .int a4), (5, .int a5), (6, .int a6), (7, .int a7)]) rfl ?_
                refine v_goto O dX10_isWord_108 (tgt := 18) (by decide) ?_
                exact v_loc [2, 3, 4, 5, 6, 7, 8, 9, 1, 0] rfl (e18 a1 a2 a3 a4 a5 a6 a7 0 w19 X Y ((((((((h.2 g1).2 g2).2.1 g3).1 g4).1 g5).2 g6).1 g18) w19 hw20))
              · refine v_iconst O dX10_isWord_98 kc_1 ?_
                refine v_goto O dX10_isWord_99 (tgt := 103) (by decide) ?_
                refine v_istore (lv' := [(8, .int 1), (0, .ref 48), (1, .int a1), (2, .int a2), (3, .int a3), (4, .int a4), (5, .int a5), (6, .int a6), (7, .int a7), (9, .int a9)]) O dX10_isWord_103 (by decide) rfl ?_
                obtain ⟨w21, hw22⟩ : ∃ y : Int32, y = a9 + 1 := ⟨_, rfl⟩
                refine v_iinc (v := w21) (j := 9) O dX10_isWord_105 rfl (by rw [hw22]; exact congrArg _ kc_1) (by decide) (lv' := [(9, .int w21), (8, .int 1), (0, .ref 48), (1, .int a1), (2, .int a2), (3, .int a3), (4, .int a4), (5, .int a5), (6, .int a6), (7, .int a7)]) rfl ?_
                refine v_goto O dX10_isWord_108 (tgt := 18) (by decide) ?_
                exact v_loc [2, 3, 4, 5, 6, 7, 8, 9, 1, 0] rfl (e18 a1 a2 a3 a4 a5 a6 a7 1 w21 X Y ((((((((h.2 g1).2 g2).2.1 g3).1 g4).1 g5).2 g6).2 g18) w21 hw22))
          · refine v_iload O dX10_isWord_66 4 rfl ?_
            refine v_goto O dX10_isWord_68 (tgt := 95) (by decide) ?_
            refine v_icmp_ne (tgt := 102) O dX10_isWord_95 (by decide) (fun g23 => ?_) (fun g23 => ?_)
            · refine v_iconst O dX10_isWord_102 kc_0 ?_
              refine v_istore (lv' := [(8, .int 0), (0, .ref 48), (1, .int a1), (2, .int a2), (3, .int a3), (4, .int a4), (5, .int a5), (6, .int a6), (7, .int a7), (9, .int a9)]) O dX10_isWord_103 (by decide) rfl ?_
              obtain ⟨w24, hw25⟩ : ∃ y : Int32, y = a9 + 1 := ⟨_, rfl⟩
              refine v_iinc (v := w24) (j := 9) O dX10_isWord_105 rfl (by rw [hw25]; exact congrArg _ kc_1) (by decide) (lv' := [(9, .int w24), (8, .int 0), (0, .ref 48), (1, .int a1), (2, .int a2), (3, .int a3), (4, .int a4), (5, .int a5), (6, .int a6), (7, .int a7)]) rfl ?_
              refine v_goto O dX10_isWord_108 (tgt := 18) (by decide) ?_
              exact v_loc [2, 3, 4, 5, 6, 7, 8, 9, 1, 0] rfl (e18 a1 a2 a3 a4 a5 a6 a7 0 w24 X Y (((((((h.2 g1).2 g2).2.1 g3).1 g4).2 g5).1 g23) w24 hw25))
            · refine v_iconst O dX10_isWord_98 kc_1 ?_
              refine v_goto O dX10_isWord_99 (tgt := 103) (by decide) ?_
              refine v_istore (lv' := [(8, .int 1), (0, .ref 48), (1, .int a1), (2, .int a2), (3, .int a3), (4, .int a4), (5, .int a5), (6, .int a6), (7, .int a7), (9, .int a9)]) O dX10_isWord_103 (by decide) rfl ?_
              obtain ⟨w26, hw27⟩ : ∃ y : Int32, y = a9 + 1 := ⟨_, rfl⟩
              refine v_iinc (v := w26) (j := 9) O dX10_isWord_105 rfl (by rw [hw27]; exact congrArg _ kc_1) (by decide) (lv' := [(9, .int w26), (8, .int 1), (0, .ref 48), (1, .int a1), (2, .int a2), (3, .int a3), (4, .int a4), (5, .int a5), (6, .int a6), (7, .int a7)]) rfl ?_
              refine v_goto O dX10_isWord_108 (tgt := 18) (by decide) ?_
              exact v_loc [2, 3, 4, 5, 6, 7, 8, 9, 1, 0] rfl (e18 a1 a2 a3 a4 a5 a6 a7 1 w26 X Y (((((((h.2 g1).2 g2).2.1 g3).1 g4).2 g5).2 g23) w26 hw27))
        · refine v_iload_n O dX10_isWord_56 rfl 3 rfl ?_
          refine v_goto O dX10_isWord_57 (tgt := 95) (by decide) ?_
          refine v_icmp_ne (tgt := 102) O dX10_isWord_95 (by decide) (fun g28 => ?_) (fun g28 => ?_)
          · refine v_iconst O dX10_isWord_102 kc_0 ?_
            refine v_istore (lv' := [(8, .int 0), (0, .ref 48), (1, .int a1), (2, .int a2), (3, .int a3), (4, .int a4), (5, .int a5), (6, .int a6), (7, .int a7), (9, .int a9)]) O dX10_isWord_103 (by decide) rfl ?_
            obtain ⟨w29, hw30⟩ : ∃ y : Int32, y = a9 + 1 := ⟨_, rfl⟩
            refine v_iinc (v := w29) (j := 9) O dX10_isWord_105 rfl (by rw [hw30]; exact congrArg _ kc_1) (by decide) (lv' := [(9, .int w29), (8, .int 0), (0, .ref 48), (1, .int a1), (2, .int a2), (3, .int a3), (4, .int a4), (5, .int a5), (6, .int a6), (7, .int a7)]) rfl ?_
            refine v_goto O dX10_isWord_108 (tgt := 18) (by decide) ?_
            exact v_loc [2, 3, 4, 5, 6, 7, 8, 9, 1, 0] rfl (e18 a1 a2 a3 a4 a5 a6 a7 0 w29 X Y ((((((h.2 g1).2 g2).2.1 g3).2 g4).1 g28) w29 hw30))
          · refine v_iconst O dX10_isWord_98 kc_1 ?_
            refine v_goto O dX10_isWord_99 (tgt := 103) (by decide) ?_
            refine v_istore (lv' := [(8, .int 1), (0, .ref 48), (1, .int a1), (2, .int a2), (3, .int a3), (4, .int a4), (5, .int a5), (6, .int a6), (7, .int a7), (9, .int a9)]) O dX10_isWord_103 (by decide) rfl ?_
            obtain ⟨w31, hw32⟩ : ∃ y : Int32, y = a9 + 1 := ⟨_, rfl⟩
            refine v_iinc (v := w31) (j := 9) O dX10_isWord_105 rfl (by rw [hw32]; exact congrArg _ kc_1) (by decide) (lv' := [(9, .int w31), (8, .int 1), (0, .ref 48), (1, .int a1), (2, .int a2), (3, .int a3), (4, .int a4), (5, .int a5), (6, .int a6), (7, .int a7)]) rfl ?_
            refine v_goto O dX10_isWord_108 (tgt := 18) (by decide) ?_
            exact v_loc [2, 3, 4, 5, 6, 7, 8, 9, 1, 0] rfl (e18 a1 a2 a3 a4 a5 a6 a7 1 w31 X Y ((((((h.2 g1).2 g2).2.1 g3).2 g4).2 g28) w31 hw32))
      · refine v_iload_n O dX10_isWord_46 rfl 2 rfl ?_
        refine v_goto O dX10_isWord_47 (tgt := 95) (by decide) ?_
        refine v_icmp_ne (tgt := 102) O dX10_isWord_95 (by decide) (fun g33 => ?_) (fun g33 => ?_)
        · refine v_iconst O dX10_isWord_102 kc_0 ?_
          refine v_istore (lv' := [(8, .int 0), (0, .ref 48), (1, .int a1), (2, .int a2), (3, .int a3), (4, .int a4), (5, .int a5), (6, .int a6), (7, .int a7), (9, .int a9)]) O dX10_isWord_103 (by decide) rfl ?_
          obtain ⟨w34, hw35⟩ : ∃ y : Int32, y = a9 + 1 := ⟨_, rfl⟩
          refine v_iinc (v := w34) (j := 9) O dX10_isWord_105 rfl (by rw [hw35]; exact congrArg _ kc_1) (by decide) (lv' := [(9, .int w34), (8, .int 0), (0, .ref 48), (1, .int a1), (2, .int a2), (3, .int a3), (4, .int a4), (5, .int a5), (6, .int a6), (7, .int a7)]) rfl ?_
          refine v_goto O dX10_isWord_108 (tgt := 18) (by decide) ?_
          exact v_loc [2, 3, 4, 5, 6, 7, 8, 9, 1, 0] rfl (e18 a1 a2 a3 a4 a5 a6 a7 0 w34 X Y (((((h.2 g1).2 g2).2.2 g3).1 g33) w34 hw35))
        · refine v_iconst O dX10_isWord_98 kc_1 ?_
          refine v_goto O dX10_isWord_99 (tgt := 103) (by decide) ?_
          refine v_istore (lv' := [(8, .int 1), (0, .ref 48), (1, .int a1), (2, .int a2), (3, .int a3), (4, .int a4), (5, .int a5), (6, .int a6), (7, .int a7), (9, .int a9)]) O dX10_isWord_103 (by decide) rfl ?_
          obtain ⟨w36, hw37⟩ : ∃ y : Int32, y = a9 + 1 := ⟨_, rfl⟩
          refine v_iinc (v := w36) (j := 9) O dX10_isWord_105 rfl (by rw [hw37]; exact congrArg _ kc_1) (by decide) (lv' := [(9, .int w36), (8, .int 1), (0, .ref 48), (1, .int a1), (2, .int a2), (3, .int a3), (4, .int a4), (5, .int a5), (6, .int a6), (7, .int a7)]) rfl ?_
          refine v_goto O dX10_isWord_108 (tgt := 18) (by decide) ?_
          exact v_loc [2, 3, 4, 5, 6, 7, 8, 9, 1, 0] rfl (e18 a1 a2 a3 a4 a5 a6 a7 1 w36 X Y (((((h.2 g1).2 g2).2.2 g3).2 g33) w36 hw37))
set_option maxHeartbeats 4000000 in
set_option maxRecDepth 100000 in
theorem kX10_isWord_s {Γ : Cxt} {Q : Int32 → XT → YT → Prop} (O : Ok Γ RX10 cX10_isWord 10 { frames := 0, cells := 0, slots := 0, locals := 0 }) (r : Ret Γ (some .boolean) (qI Q)) {I18 : Int32 → Int32 → Int32 → Int32 → Int32 → Int32 → Int32 → Int32 → Int32 → XT → YT → Prop} (e18 : ∀ (a1 : Int32) (a2 : Int32) (a3 : Int32) (a4 : Int32) (a5 : Int32) (a6 : Int32) (a7 : Int32) (a8 : Int32) (a9 : Int32) (X : XT) (Y : YT), I18 a1 a2 a3 a4 a5 a6 a7 a8 a9 X Y → V Γ 18 [(0, .ref 48), (1, .int a1), (2, .int a2), (3, .int a3), (4, .int a4), (5, .int a5), (6, .int a6), (7, .int a7), (8, .int a8), (9, .int a9)] [] X Y) {p0 : Int32} {p1 : Int32} {p2 : Int32} {p3 : Int32} {p4 : Int32} {p5 : Int32} {p6 : Int32} {X : XT} {Y : YT} (h : BX10_isWord_s I18 Q p0 p1 p2 p3 p4 p5 p6 X Y) : V Γ 0 [(0, .ref 48), (1, .int p0), (2, .int p1), (3, .int p2), (4, .int p3), (5, .int p4), (6, .int p5), (7, .int p6)] [] X Y := by
  refine v_aload_n O dX10_isWord_0 rfl 0 rfl ?_
  refine v_get O dX10_isWord_1 fo_X10_187 sh_48 rfl rfl ?_
  refine v_iload_n O dX10_isWord_4 rfl 1 rfl ?_
  refine v_icmp_ne (tgt := 12) O dX10_isWord_5 (by decide) (fun g1 => ?_) (fun g1 => ?_)
  · refine v_iconst O dX10_isWord_12 kc_0 ?_
    refine v_istore (lv' := [(8, .int 0), (0, .ref 48), (1, .int p0), (2, .int p1), (3, .int p2), (4, .int p3), (5, .int p4), (6, .int p5), (7, .int p6)]) O dX10_isWord_13 (by decide) rfl ?_
    refine v_iconst O dX10_isWord_15 kc_0 ?_
    refine v_istore (lv' := [(9, .int 0), (8, .int 0), (0, .ref 48), (1, .int p0), (2, .int p1), (3, .int p2), (4, .int p3), (5, .int p4), (6, .int p5), (7, .int p6)]) O dX10_isWord_16 (by decide) rfl ?_
    exact v_loc [2, 3, 4, 5, 6, 7, 8, 9, 1, 0] rfl (e18 p0 p1 p2 p3 p4 p5 p6 0 0 X Y (h.1 g1))
  · refine v_iconst O dX10_isWord_8 kc_1 ?_
    refine v_goto O dX10_isWord_9 (tgt := 13) (by decide) ?_
    refine v_istore (lv' := [(8, .int 1), (0, .ref 48), (1, .int p0), (2, .int p1), (3, .int p2), (4, .int p3), (5, .int p4), (6, .int p5), (7, .int p6)]) O dX10_isWord_13 (by decide) rfl ?_
    refine v_iconst O dX10_isWord_15 kc_0 ?_
    refine v_istore (lv' := [(9, .int 0), (8, .int 1), (0, .ref 48), (1, .int p0), (2, .int p1), (3, .int p2), (4, .int p3), (5, .int p4), (6, .int p5), (7, .int p6)]) O dX10_isWord_16 (by decide) rfl ?_
    exact v_loc [2, 3, 4, 5, 6, 7, 8, 9, 1, 0] rfl (e18 p0 p1 p2 p3 p4 p5 p6 1 0 X Y (h.2 g1))
set_option maxRecDepth 100000 in
theorem mX10_isWord {Γ : Cxt} {p0 : Int32} {p1 : Int32} {p2 : Int32} {p3 : Int32} {p4 : Int32} {p5 : Int32} {p6 : Int32} {X : XT} {Y : YT} {Q : Int32 → XT → YT → Prop} (h : PX10_isWord p0 p1 p2 p3 p4 p5 p6 X Y Q) : MT Γ yX10_isWord (.code yX10_isWord cX10_isWord 10 (some .boolean) :: wl) { frames := 0, cells := 0, slots := 0, locals := 0 } [.ref 48, .int p0, .int p1, .int p2, .int p3, .int p4, .int p5, .int p6] X Y (qI Q) :=
  mt_of (by decide) (Nat.le_of_ble_eq_true rfl) (fun Γ _ O r => kX10_isWord_s O r (fun _ _ _ _ _ _ _ _ _ _ _ g => g) (h (fun a1 a2 a3 a4 a5 a6 a7 a8 a9 X Y => V Γ 18 [(0, .ref 48), (1, .int a1), (2, .int a2), (3, .int a3), (4, .int a4), (5, .int a5), (6, .int a6), (7, .int a7), (8, .int a8), (9, .int a9)] [] X Y) (fun _ _ _ _ _ _ _ _ _ _ _ g => kX10_isWord_18 O r (fun _ _ _ _ _ _ _ _ _ _ _ g => g) g)))
theorem dX10_takeNumber_0 : decode cX10_takeNumber 0 = .ok (.aload_n 0, 1) := by decide +kernel
theorem dX10_takeNumber_1 : decode cX10_takeNumber 1 = .ok (.getfield 178, 3) := by decide +kernel
theorem dX10_takeNumber_4 : decode cX10_takeNumber 4 = .ok (.ifCond .le 5, 3) := by decide +kernel
theorem dX10_takeNumber_7 : decode cX10_takeNumber 7 = .ok (.iconst 0, 1) := by decide +kernel
theorem dX10_takeNumber_8 : decode cX10_takeNumber 8 = .ok (.ireturn, 1) := by decide +kernel
theorem dX10_takeNumber_9 : decode cX10_takeNumber 9 = .ok (.aload_n 0, 1) := by decide +kernel
theorem dX10_takeNumber_10 : decode cX10_takeNumber 10 = .ok (.invokevirtual 181, 3) := by decide +kernel
theorem dX10_takeNumber_13 : decode cX10_takeNumber 13 = .ok (.istore_n 3, 1) := by decide +kernel
theorem dX10_takeNumber_14 : decode cX10_takeNumber 14 = .ok (.aload_n 0, 1) := by decide +kernel
theorem dX10_takeNumber_15 : decode cX10_takeNumber 15 = .ok (.aload_n 0, 1) := by decide +kernel
theorem dX10_takeNumber_16 : decode cX10_takeNumber 16 = .ok (.getfield 175, 3) := by decide +kernel
theorem dX10_takeNumber_19 : decode cX10_takeNumber 19 = .ok (.putfield 184, 3) := by decide +kernel
theorem dX10_takeNumber_22 : decode cX10_takeNumber 22 = .ok (.aload_n 0, 1) := by decide +kernel
theorem dX10_takeNumber_23 : decode cX10_takeNumber 23 = .ok (.iload_n 3, 1) := by decide +kernel
theorem dX10_takeNumber_24 : decode cX10_takeNumber 24 = .ok (.i2l, 1) := by decide +kernel
theorem dX10_takeNumber_25 : decode cX10_takeNumber 25 = .ok (.ldc2_w 190, 3) := by decide +kernel
theorem dX10_takeNumber_28 : decode cX10_takeNumber 28 = .ok (.ldc2_w 192, 3) := by decide +kernel
theorem dX10_takeNumber_31 : decode cX10_takeNumber 31 = .ok (.invokestatic 108, 3) := by decide +kernel
theorem dX10_takeNumber_34 : decode cX10_takeNumber 34 = .ok (.iconst 1, 1) := by decide +kernel
theorem dX10_takeNumber_35 : decode cX10_takeNumber 35 = .ok (.aload_n 0, 1) := by decide +kernel
theorem dX10_takeNumber_36 : decode cX10_takeNumber 36 = .ok (.getfield 175, 3) := by decide +kernel
theorem dX10_takeNumber_39 : decode cX10_takeNumber 39 = .ok (.invokevirtual 194, 3) := by decide +kernel
theorem dX10_takeNumber_42 : decode cX10_takeNumber 42 = .ok (.ifCond .ne 5, 3) := by decide +kernel
theorem dX10_takeNumber_45 : decode cX10_takeNumber 45 = .ok (.iconst 0, 1) := by decide +kernel
theorem dX10_takeNumber_46 : decode cX10_takeNumber 46 = .ok (.ireturn, 1) := by decide +kernel
theorem dX10_takeNumber_47 : decode cX10_takeNumber 47 = .ok (.iconst 0, 1) := by decide +kernel
theorem dX10_takeNumber_48 : decode cX10_takeNumber 48 = .ok (.istore 4, 2) := by decide +kernel
theorem dX10_takeNumber_50 : decode cX10_takeNumber 50 = .ok (.aload_n 0, 1) := by decide +kernel
theorem dX10_takeNumber_51 : decode cX10_takeNumber 51 = .ok (.getfield 175, 3) := by decide +kernel
theorem dX10_takeNumber_54 : decode cX10_takeNumber 54 = .ok (.aload_n 0, 1) := by decide +kernel
theorem dX10_takeNumber_55 : decode cX10_takeNumber 55 = .ok (.getfield 118, 3) := by decide +kernel
theorem dX10_takeNumber_58 : decode cX10_takeNumber 58 = .ok (.if_icmp .ge 71, 3) := by decide +kernel
theorem dX10_takeNumber_61 : decode cX10_takeNumber 61 = .ok (.aload_n 0, 1) := by decide +kernel
theorem dX10_takeNumber_62 : decode cX10_takeNumber 62 = .ok (.getfield 34, 3) := by decide +kernel
theorem dX10_takeNumber_65 : decode cX10_takeNumber 65 = .ok (.aload_n 0, 1) := by decide +kernel
theorem dX10_takeNumber_66 : decode cX10_takeNumber 66 = .ok (.getfield 175, 3) := by decide +kernel
theorem dX10_takeNumber_69 : decode cX10_takeNumber 69 = .ok (.iaload, 1) := by decide +kernel
theorem dX10_takeNumber_70 : decode cX10_takeNumber 70 = .ok (.i2l, 1) := by decide +kernel
theorem dX10_takeNumber_71 : decode cX10_takeNumber 71 = .ok (.ldc2_w 190, 3) := by decide +kernel
theorem dX10_takeNumber_74 : decode cX10_takeNumber 74 = .ok (.ldc2_w 192, 3) := by decide +kernel
theorem dX10_takeNumber_77 : decode cX10_takeNumber 77 = .ok (.invokestatic 108, 3) := by decide +kernel
theorem dX10_takeNumber_80 : decode cX10_takeNumber 80 = .ok (.ifCond .eq 49, 3) := by decide +kernel
theorem dX10_takeNumber_83 : decode cX10_takeNumber 83 = .ok (.iload 4, 2) := by decide +kernel
theorem dX10_takeNumber_85 : decode cX10_takeNumber 85 = .ok (.sipush 999, 3) := by decide +kernel
theorem dX10_takeNumber_88 : decode cX10_takeNumber 88 = .ok (.if_icmp .le 8, 3) := by decide +kernel
theorem dX10_takeNumber_91 : decode cX10_takeNumber 91 = .ok (.iload 4, 2) := by decide +kernel
theorem dX10_takeNumber_93 : decode cX10_takeNumber 93 = .ok (.goto 21, 3) := by decide +kernel
theorem dX10_takeNumber_96 : decode cX10_takeNumber 96 = .ok (.bipush 10, 2) := by decide +kernel
theorem dX10_takeNumber_98 : decode cX10_takeNumber 98 = .ok (.iload 4, 2) := by decide +kernel
theorem dX10_takeNumber_100 : decode cX10_takeNumber 100 = .ok (.imul, 1) := by decide +kernel
theorem dX10_takeNumber_101 : decode cX10_takeNumber 101 = .ok (.aload_n 0, 1) := by decide +kernel
theorem dX10_takeNumber_102 : decode cX10_takeNumber 102 = .ok (.getfield 34, 3) := by decide +kernel
theorem dX10_takeNumber_105 : decode cX10_takeNumber 105 = .ok (.aload_n 0, 1) := by decide +kernel
theorem dX10_takeNumber_106 : decode cX10_takeNumber 106 = .ok (.getfield 175, 3) := by decide +kernel
theorem dX10_takeNumber_109 : decode cX10_takeNumber 109 = .ok (.iaload, 1) := by decide +kernel
theorem dX10_takeNumber_110 : decode cX10_takeNumber 110 = .ok (.iadd, 1) := by decide +kernel
theorem dX10_takeNumber_111 : decode cX10_takeNumber 111 = .ok (.bipush 48, 2) := by decide +kernel
theorem dX10_takeNumber_113 : decode cX10_takeNumber 113 = .ok (.isub, 1) := by decide +kernel
theorem dX10_takeNumber_114 : decode cX10_takeNumber 114 = .ok (.istore 4, 2) := by decide +kernel
theorem dX10_takeNumber_116 : decode cX10_takeNumber 116 = .ok (.aload_n 0, 1) := by decide +kernel
theorem dX10_takeNumber_117 : decode cX10_takeNumber 117 = .ok (.dup, 1) := by decide +kernel
theorem dX10_takeNumber_118 : decode cX10_takeNumber 118 = .ok (.getfield 175, 3) := by decide +kernel
theorem dX10_takeNumber_121 : decode cX10_takeNumber 121 = .ok (.iconst 1, 1) := by decide +kernel
theorem dX10_takeNumber_122 : decode cX10_takeNumber 122 = .ok (.iadd, 1) := by decide +kernel
theorem dX10_takeNumber_123 : decode cX10_takeNumber 123 = .ok (.putfield 175, 3) := by decide +kernel
theorem dX10_takeNumber_126 : decode cX10_takeNumber 126 = .ok (.goto (-76), 3) := by decide +kernel
theorem dX10_takeNumber_129 : decode cX10_takeNumber 129 = .ok (.aload_n 0, 1) := by decide +kernel
theorem dX10_takeNumber_130 : decode cX10_takeNumber 130 = .ok (.aload_n 0, 1) := by decide +kernel
theorem dX10_takeNumber_131 : decode cX10_takeNumber 131 = .ok (.getfield 175, 3) := by decide +kernel
theorem dX10_takeNumber_134 : decode cX10_takeNumber 134 = .ok (.aload_n 0, 1) := by decide +kernel
theorem dX10_takeNumber_135 : decode cX10_takeNumber 135 = .ok (.getfield 184, 3) := by decide +kernel
theorem dX10_takeNumber_138 : decode cX10_takeNumber 138 = .ok (.isub, 1) := by decide +kernel
theorem dX10_takeNumber_139 : decode cX10_takeNumber 139 = .ok (.iconst 4, 1) := by decide +kernel
theorem dX10_takeNumber_140 : decode cX10_takeNumber 140 = .ok (.if_icmp .ge 20, 3) := by decide +kernel
theorem dX10_takeNumber_143 : decode cX10_takeNumber 143 = .ok (.iload 4, 2) := by decide +kernel
theorem dX10_takeNumber_145 : decode cX10_takeNumber 145 = .ok (.i2l, 1) := by decide +kernel
theorem dX10_takeNumber_146 : decode cX10_takeNumber 146 = .ok (.iload_n 1, 1) := by decide +kernel
theorem dX10_takeNumber_147 : decode cX10_takeNumber 147 = .ok (.i2l, 1) := by decide +kernel
theorem dX10_takeNumber_148 : decode cX10_takeNumber 148 = .ok (.iload_n 2, 1) := by decide +kernel
theorem dX10_takeNumber_149 : decode cX10_takeNumber 149 = .ok (.i2l, 1) := by decide +kernel
theorem dX10_takeNumber_150 : decode cX10_takeNumber 150 = .ok (.invokestatic 108, 3) := by decide +kernel
theorem dX10_takeNumber_153 : decode cX10_takeNumber 153 = .ok (.ifCond .eq 7, 3) := by decide +kernel
theorem dX10_takeNumber_156 : decode cX10_takeNumber 156 = .ok (.iconst 1, 1) := by decide +kernel
theorem dX10_takeNumber_157 : decode cX10_takeNumber 157 = .ok (.goto 4, 3) := by decide +kernel
theorem dX10_takeNumber_160 : decode cX10_takeNumber 160 = .ok (.iconst 0, 1) := by decide +kernel
theorem dX10_takeNumber_161 : decode cX10_takeNumber 161 = .ok (.iconst 2, 1) := by decide +kernel
theorem dX10_takeNumber_162 : decode cX10_takeNumber 162 = .ok (.aload_n 0, 1) := by decide +kernel
theorem dX10_takeNumber_163 : decode cX10_takeNumber 163 = .ok (.getfield 184, 3) := by decide +kernel
theorem dX10_takeNumber_166 : decode cX10_takeNumber 166 = .ok (.invokevirtual 194, 3) := by decide +kernel
theorem dX10_takeNumber_169 : decode cX10_takeNumber 169 = .ok (.istore 5, 2) := by decide +kernel
theorem dX10_takeNumber_171 : decode cX10_takeNumber 171 = .ok (.iload 4, 2) := by decide +kernel
theorem dX10_takeNumber_173 : decode cX10_takeNumber 173 = .ok (.ireturn, 1) := by decide +kernel
def BX10_takeNumber_50 (I50 : Int32 → Int32 → Int32 → XT → YT → Prop) (I129 : Int32 → Int32 → Int32 → XT → YT → Prop) (I160 : Int32 → XT → YT → Prop) (I161 : Int32 → Int32 → XT → YT → Prop) (Q : Int32 → XT → YT → Prop) (a1 : Int32) (a2 : Int32) (a4 : Int32) (X : XT) (Y : YT) : Prop :=
  (((X 48 12) ≤ (X 48 27) → I129 a1 a2 a4 X Y) ∧ (¬ (X 48 12) ≤ (X 48 27) → vp_in (X 48 27) 120 ∧ PX10_in ((X 57 (X 48 27).toNatClampNeg).toInt64) (48 : Int64) (57 : Int64) X Y (fun r2 X3 Y4 => ((r2 = 0 → I129 a1 a2 a4 X3 Y4) ∧ (¬ r2 = 0 → ((a4 ≤ 999 → vp_in (X3 48 27) 120 ∧ ∀ w8 : Int32, w8 = (((10 * a4) + (X3 57 (X3 48 27).toNatClampNeg)) - 48) → I50 a1 a2 w8 (sX X3 48 27 ((X3 48 27) + 1)) Y4) ∧ (¬ a4 ≤ 999 → I50 a1 a2 a4 (sX X3 48 27 ((X3 48 27) + 1)) Y4)))))))
def BX10_takeNumber_129 (I50 : Int32 → Int32 → Int32 → XT → YT → Prop) (I129 : Int32 → Int32 → Int32 → XT → YT → Prop) (I160 : Int32 → XT → YT → Prop) (I161 : Int32 → Int32 → XT → YT → Prop) (Q : Int32 → XT → YT → Prop) (a1 : Int32) (a2 : Int32) (a4 : Int32) (X : XT) (Y : YT) : Prop :=
  ((4 ≤ ((X 48 27) - (X 48 28)) → I160 a4 X Y) ∧ (¬ 4 ≤ ((X 48 27) - (X 48 28)) → PX10_in (a4.toInt64) (a1.toInt64) (a2.toInt64) X Y (fun r2 X3 Y4 => ((r2 = 0 → I160 a4 X3 Y4) ∧ (¬ r2 = 0 → I161 a4 1 X3 Y4)))))
def BX10_takeNumber_160 (I50 : Int32 → Int32 → Int32 → XT → YT → Prop) (I129 : Int32 → Int32 → Int32 → XT → YT → Prop) (I160 : Int32 → XT → YT → Prop) (I161 : Int32 → Int32 → XT → YT → Prop) (Q : Int32 → XT → YT → Prop) (a4 : Int32) (X : XT) (Y : YT) : Prop :=
  I161 a4 0 X Y
def BX10_takeNumber_161 (I50 : Int32 → Int32 → Int32 → XT → YT → Prop) (I129 : Int32 → Int32 → Int32 → XT → YT → Prop) (I160 : Int32 → XT → YT → Prop) (I161 : Int32 → Int32 → XT → YT → Prop) (Q : Int32 → XT → YT → Prop) (a4 : Int32) (t0 : Int32) (X : XT) (Y : YT) : Prop :=
  PX10_want t0 2 (X 48 28) X Y (fun r1 X2 Y3 => Q a4 X2 Y3)
def BX10_takeNumber_s (I50 : Int32 → Int32 → Int32 → XT → YT → Prop) (I129 : Int32 → Int32 → Int32 → XT → YT → Prop) (I160 : Int32 → XT → YT → Prop) (I161 : Int32 → Int32 → XT → YT → Prop) (Q : Int32 → XT → YT → Prop) (p0 : Int32) (p1 : Int32) (X : XT) (Y : YT) : Prop :=
  (((X 48 30) ≤ 0 → PX10_here X Y (fun r2 X3 Y4 => PX10_in (r2.toInt64) (48 : Int64) (57 : Int64) (sX X3 48 28 (X3 48 27)) Y4 (fun r6 X7 Y8 => PX10_want r6 1 (X7 48 27) X7 Y8 (fun r10 X11 Y12 => ((¬ r10 = 0 → I50 p0 p1 0 X11 Y12) ∧ (r10 = 0 → Q 0 X11 Y12)))))) ∧ (¬ (X 48 30) ≤ 0 → Q 0 X Y))
def PX10_takeNumber (p0 : Int32) (p1 : Int32) (X : XT) (Y : YT) (Q : Int32 → XT → YT → Prop) : Prop := ∀ (I50 : Int32 → Int32 → Int32 → XT → YT → Prop) (I129 : Int32 → Int32 → Int32 → XT → YT → Prop) (I160 : Int32 → XT → YT → Prop) (I161 : Int32 → Int32 → XT → YT → Prop), (∀ (a1 : Int32) (a2 : Int32) (a4 : Int32) (X : XT) (Y : YT), BX10_takeNumber_50 I50 I129 I160 I161 Q a1 a2 a4 X Y → I50 a1 a2 a4 X Y) → (∀ (a1 : Int32) (a2 : Int32) (a4 : Int32) (X : XT) (Y : YT), BX10_takeNumber_129 I50 I129 I160 I161 Q a1 a2 a4 X Y → I129 a1 a2 a4 X Y) → (∀ (a4 : Int32) (X : XT) (Y : YT), BX10_takeNumber_160 I50 I129 I160 I161 Q a4 X Y → I160 a4 X Y) → (∀ (a4 : Int32) (t0 : Int32) (X : XT) (Y : YT), BX10_takeNumber_161 I50 I129 I160 I161 Q a4 t0 X Y → I161 a4 t0 X Y) → BX10_takeNumber_s I50 I129 I160 I161 Q p0 p1 X Y
set_option maxHeartbeats 4000000 in
set_option maxRecDepth 100000 in
theorem kX10_takeNumber_50 {Γ : Cxt} {Q : Int32 → XT → YT → Prop} (O : Ok Γ RX10 cX10_takeNumber 6 { frames := 1, cells := 0, slots := 0, locals := 25 }) (r : Ret Γ (some .int) (qI Q)) {I50 : Int32 → Int32 → Int32 → XT → YT → Prop} {I129 : Int32 → Int32 → Int32 → XT → YT → Prop} {I160 : Int32 → XT → YT → Prop} {I161 : Int32 → Int32 → XT → YT → Prop} (e50 : ∀ (a1 : Int32) (a2 : Int32) (a4 : Int32) (X : XT) (Y : YT), I50 a1 a2 a4 X Y → V Γ 50 [(0, .ref 48), (1, .int a1), (2, .int a2), (4, .int a4)] [] X Y) (e129 : ∀ (a1 : Int32) (a2 : Int32) (a4 : Int32) (X : XT) (Y : YT), I129 a1 a2 a4 X Y → V Γ 129 [(0, .ref 48), (1, .int a1), (2, .int a2), (4, .int a4)] [] X Y) (e160 : ∀ (a4 : Int32) (X : XT) (Y : YT), I160 a4 X Y → V Γ 160 [(0, .ref 48), (4, .int a4)] [.ref 48] X Y) (e161 : ∀ (a4 : Int32) (t0 : Int32) (X : XT) (Y : YT), I161 a4 t0 X Y → V Γ 161 [(0, .ref 48), (4, .int a4)] [.int t0, .ref 48] X Y) {a1 : Int32} {a2 : Int32} {a4 : Int32} {X : XT} {Y : YT} (h : BX10_takeNumber_50 I50 I129 I160 I161 Q a1 a2 a4 X Y) : V Γ 50 [(0, .ref 48), (1, .int a1), (2, .int a2), (4, .int a4)] [] X Y := by
  refine v_aload_n O dX10_takeNumber_50 rfl 0 rfl ?_
  refine v_get O dX10_takeNumber_51 fo_X10_175 sh_48 rfl rfl ?_
  refine v_aload_n O dX10_takeNumber_54 rfl 0 rfl ?_
  refine v_get O dX10_takeNumber_55 fo_X10_118 sh_48 rfl rfl ?_
  refine v_icmp_ge (tgt := 129) O dX10_takeNumber_58 (by decide) (fun g1 => ?_) (fun g1 => ?_)
  · exact v_loc [0, 1, 2, 3] rfl (e129 a1 a2 a4 X Y (h.1 g1))
  · refine v_aload_n O dX10_takeNumber_61 rfl 0 rfl ?_
    refine v_get O dX10_takeNumber_62 fo_X10_34 sh_48 rfl rfl ?_
    refine v_aload_n O dX10_takeNumber_65 rfl 0 rfl ?_
    refine v_get O dX10_takeNumber_66 fo_X10_175 sh_48 rfl rfl ?_
    refine v_iald O dX10_takeNumber_69 sh_57 (h.2 g1).1 ?_
    refine v_i2l O dX10_takeNumber_70 ?_
    refine v_ldc2 O dX10_takeNumber_71 kl_X10_190 ?_
    refine v_ldc2 O dX10_takeNumber_74 kl_X10_192 ?_
    refine v_callS (rm' := { frames := 0, cells := 0, slots := 0, locals := 0 }) (As := [.long ((X 57 (X 48 27).toNatClampNeg).toInt64), .long (48 : Int64), .long (57 : Int64)]) (st := []) O dX10_takeNumber_77 ci_X10_in ml_X10_108 ms_X10_in ⟨rfl, rfl, (by decide), (by decide)⟩ rfl (Nat.le_of_ble_eq_true rfl) rfl (mX10_in (h.2 g1).2) (k_I (fun r2 X3 Y4 h5 => ?_))
    refine v_if_eq (tgt := 129) O dX10_takeNumber_80 (by decide) (fun g6 => ?_) (fun g6 => ?_)
    · exact v_loc [0, 1, 2, 3] rfl (e129 a1 a2 a4 X3 Y4 (h5.1 g6))
    · refine v_iload O dX10_takeNumber_83 3 rfl ?_
      refine v_sipush O dX10_takeNumber_85 ks_999 ?_
      refine v_icmp_le (tgt := 96) O dX10_takeNumber_88 (by decide) (fun g7 => ?_) (fun g7 => ?_)
      · refine v_bipush O dX10_takeNumber_96 kb_10 ?_
        refine v_iload O dX10_takeNumber_98 3 rfl ?_
        refine v_imul O dX10_takeNumber_100 ?_
        refine v_aload_n O dX10_takeNumber_101 rfl 0 rfl ?_
        refine v_get O dX10_takeNumber_102 fo_X10_34 sh_48 rfl rfl ?_
        refine v_aload_n O dX10_takeNumber_105 rfl 0 rfl ?_
        refine v_get O dX10_takeNumber_106 fo_X10_175 sh_48 rfl rfl ?_
        refine v_iald O dX10_takeNumber_109 sh_57 ((h5.2 g6).1 g7).1 ?_
        refine v_iadd O dX10_takeNumber_110 ?_
        refine v_bipush O dX10_takeNumber_111 kb_48 ?_
        refine v_isub O dX10_takeNumber_113 ?_
        refine v_topi (fun w8 hw9 => ?_)
        refine v_istore (lv' := [(4, .int w8), (0, .ref 48), (1, .int a1), (2, .int a2)]) O dX10_takeNumber_114 (by decide) rfl ?_
        refine v_aload_n O dX10_takeNumber_116 rfl 1 rfl ?_
        refine v_dup O dX10_takeNumber_117 rfl ?_
        refine v_get O dX10_takeNumber_118 fo_X10_175 sh_48 rfl rfl ?_
        refine v_iconst O dX10_takeNumber_121 kc_1 ?_
        refine v_iadd O dX10_takeNumber_122 ?_
        refine v_putI O dX10_takeNumber_123 fo_X10_175 fp_10_27 sh_48 rfl rfl rfl ?_
        refine v_goto O dX10_takeNumber_126 (tgt := 50) (by decide) ?_
        exact v_loc [1, 2, 3, 0] rfl (e50 a1 a2 w8 (sX X3 48 27 ((X3 48 27) + 1)) Y4 (((h5.2 g6).1 g7).2 w8 hw9))
      · refine v_iload O dX10_takeNumber_91 3 rfl ?_
        refine v_goto O dX10_takeNumber_93 (tgt := 114) (by decide) ?_
        refine v_istore (lv' := [(4, .int a4), (0, .ref 48), (1, .int a1), (2, .int a2)]) O dX10_takeNumber_114 (by decide) rfl ?_
        refine v_aload_n O dX10_takeNumber_116 rfl 1 rfl ?_
        refine v_dup O dX10_takeNumber_117 rfl ?_
        refine v_get O dX10_takeNumber_118 fo_X10_175 sh_48 rfl rfl ?_
        refine v_iconst O dX10_takeNumber_121 kc_1 ?_
        refine v_iadd O dX10_takeNumber_122 ?_
        refine v_putI O dX10_takeNumber_123 fo_X10_175 fp_10_27 sh_48 rfl rfl rfl ?_
        refine v_goto O dX10_takeNumber_126 (tgt := 50) (by decide) ?_
        exact v_loc [1, 2, 3, 0] rfl (e50 a1 a2 a4 (sX X3 48 27 ((X3 48 27) + 1)) Y4 ((h5.2 g6).2 g7))
set_option maxHeartbeats 4000000 in
set_option maxRecDepth 100000 in
theorem kX10_takeNumber_129 {Γ : Cxt} {Q : Int32 → XT → YT → Prop} (O : Ok Γ RX10 cX10_takeNumber 6 { frames := 1, cells := 0, slots := 0, locals := 25 }) (r : Ret Γ (some .int) (qI Q)) {I50 : Int32 → Int32 → Int32 → XT → YT → Prop} {I129 : Int32 → Int32 → Int32 → XT → YT → Prop} {I160 : Int32 → XT → YT → Prop} {I161 : Int32 → Int32 → XT → YT → Prop} (e50 : ∀ (a1 : Int32) (a2 : Int32) (a4 : Int32) (X : XT) (Y : YT), I50 a1 a2 a4 X Y → V Γ 50 [(0, .ref 48), (1, .int a1), (2, .int a2), (4, .int a4)] [] X Y) (e129 : ∀ (a1 : Int32) (a2 : Int32) (a4 : Int32) (X : XT) (Y : YT), I129 a1 a2 a4 X Y → V Γ 129 [(0, .ref 48), (1, .int a1), (2, .int a2), (4, .int a4)] [] X Y) (e160 : ∀ (a4 : Int32) (X : XT) (Y : YT), I160 a4 X Y → V Γ 160 [(0, .ref 48), (4, .int a4)] [.ref 48] X Y) (e161 : ∀ (a4 : Int32) (t0 : Int32) (X : XT) (Y : YT), I161 a4 t0 X Y → V Γ 161 [(0, .ref 48), (4, .int a4)] [.int t0, .ref 48] X Y) {a1 : Int32} {a2 : Int32} {a4 : Int32} {X : XT} {Y : YT} (h : BX10_takeNumber_129 I50 I129 I160 I161 Q a1 a2 a4 X Y) : V Γ 129 [(0, .ref 48), (1, .int a1), (2, .int a2), (4, .int a4)] [] X Y := by
  refine v_aload_n O dX10_takeNumber_129 rfl 0 rfl ?_
  refine v_aload_n O dX10_takeNumber_130 rfl 0 rfl ?_
  refine v_get O dX10_takeNumber_131 fo_X10_175 sh_48 rfl rfl ?_
  refine v_aload_n O dX10_takeNumber_134 rfl 0 rfl ?_
  refine v_get O dX10_takeNumber_135 fo_X10_184 sh_48 rfl rfl ?_
  refine v_isub O dX10_takeNumber_138 ?_
  refine v_iconst O dX10_takeNumber_139 kc_4 ?_
  refine v_icmp_ge (tgt := 160) O dX10_takeNumber_140 (by decide) (fun g1 => ?_) (fun g1 => ?_)
  · exact v_loc [0, 3] rfl (e160 a4 X Y (h.1 g1))
  · refine v_iload O dX10_takeNumber_143 3 rfl ?_
    refine v_i2l O dX10_takeNumber_145 ?_
    refine v_iload_n O dX10_takeNumber_146 rfl 1 rfl ?_
    refine v_i2l O dX10_takeNumber_147 ?_
    refine v_iload_n O dX10_takeNumber_148 rfl 2 rfl ?_
    refine v_i2l O dX10_takeNumber_149 ?_
    refine v_callS (rm' := { frames := 0, cells := 0, slots := 0, locals := 0 }) (As := [.long (a4.toInt64), .long (a1.toInt64), .long (a2.toInt64)]) (st := [.ref 48]) O dX10_takeNumber_150 ci_X10_in ml_X10_108 ms_X10_in ⟨rfl, rfl, (by decide), (by decide)⟩ rfl (Nat.le_of_ble_eq_true rfl) rfl (mX10_in (h.2 g1)) (k_I (fun r2 X3 Y4 h5 => ?_))
    refine v_if_eq (tgt := 160) O dX10_takeNumber_153 (by decide) (fun g6 => ?_) (fun g6 => ?_)
    · exact v_loc [0, 3] rfl (e160 a4 X3 Y4 (h5.1 g6))
    · refine v_iconst O dX10_takeNumber_156 kc_1 ?_
      refine v_goto O dX10_takeNumber_157 (tgt := 161) (by decide) ?_
      exact v_loc [0, 3] rfl (e161 a4 1 X3 Y4 (h5.2 g6))
set_option maxHeartbeats 4000000 in
set_option maxRecDepth 100000 in
theorem kX10_takeNumber_160 {Γ : Cxt} {Q : Int32 → XT → YT → Prop} (O : Ok Γ RX10 cX10_takeNumber 6 { frames := 1, cells := 0, slots := 0, locals := 25 }) (r : Ret Γ (some .int) (qI Q)) {I50 : Int32 → Int32 → Int32 → XT → YT → Prop} {I129 : Int32 → Int32 → Int32 → XT → YT → Prop} {I160 : Int32 → XT → YT → Prop} {I161 : Int32 → Int32 → XT → YT → Prop} (e50 : ∀ (a1 : Int32) (a2 : Int32) (a4 : Int32) (X : XT) (Y : YT), I50 a1 a2 a4 X Y → V Γ 50 [(0, .ref 48), (1, .int a1), (2, .int a2), (4, .int a4)] [] X Y) (e129 : ∀ (a1 : Int32) (a2 : Int32) (a4 : Int32) (X : XT) (Y : YT), I129 a1 a2 a4 X Y → V Γ 129 [(0, .ref 48), (1, .int a1), (2, .int a2), (4, .int a4)] [] X Y) (e160 : ∀ (a4 : Int32) (X : XT) (Y : YT), I160 a4 X Y → V Γ 160 [(0, .ref 48), (4, .int a4)] [.ref 48] X Y) (e161 : ∀ (a4 : Int32) (t0 : Int32) (X : XT) (Y : YT), I161 a4 t0 X Y → V Γ 161 [(0, .ref 48), (4, .int a4)] [.int t0, .ref 48] X Y) {a4 : Int32} {X : XT} {Y : YT} (h : BX10_takeNumber_160 I50 I129 I160 I161 Q a4 X Y) : V Γ 160 [(0, .ref 48), (4, .int a4)] [.ref 48] X Y := by
  refine v_iconst O dX10_takeNumber_160 kc_0 ?_
  exact v_loc [0, 1] rfl (e161 a4 0 X Y h)
set_option maxHeartbeats 4000000 in
set_option maxRecDepth 100000 in
theorem kX10_takeNumber_161 {Γ : Cxt} {Q : Int32 → XT → YT → Prop} (O : Ok Γ RX10 cX10_takeNumber 6 { frames := 1, cells := 0, slots := 0, locals := 25 }) (r : Ret Γ (some .int) (qI Q)) {I50 : Int32 → Int32 → Int32 → XT → YT → Prop} {I129 : Int32 → Int32 → Int32 → XT → YT → Prop} {I160 : Int32 → XT → YT → Prop} {I161 : Int32 → Int32 → XT → YT → Prop} (e50 : ∀ (a1 : Int32) (a2 : Int32) (a4 : Int32) (X : XT) (Y : YT), I50 a1 a2 a4 X Y → V Γ 50 [(0, .ref 48), (1, .int a1), (2, .int a2), (4, .int a4)] [] X Y) (e129 : ∀ (a1 : Int32) (a2 : Int32) (a4 : Int32) (X : XT) (Y : YT), I129 a1 a2 a4 X Y → V Γ 129 [(0, .ref 48), (1, .int a1), (2, .int a2), (4, .int a4)] [] X Y) (e160 : ∀ (a4 : Int32) (X : XT) (Y : YT), I160 a4 X Y → V Γ 160 [(0, .ref 48), (4, .int a4)] [.ref 48] X Y) (e161 : ∀ (a4 : Int32) (t0 : Int32) (X : XT) (Y : YT), I161 a4 t0 X Y → V Γ 161 [(0, .ref 48), (4, .int a4)] [.int t0, .ref 48] X Y) {a4 : Int32} {t0 : Int32} {X : XT} {Y : YT} (h : BX10_takeNumber_161 I50 I129 I160 I161 Q a4 t0 X Y) : V Γ 161 [(0, .ref 48), (4, .int a4)] [.int t0, .ref 48] X Y := by
  refine v_iconst O dX10_takeNumber_161 kc_2 ?_
  refine v_aload_n O dX10_takeNumber_162 rfl 0 rfl ?_
  refine v_get O dX10_takeNumber_163 fo_X10_184 sh_48 rfl rfl ?_
  refine v_callV (rm' := { frames := 0, cells := 0, slots := 0, locals := 0 }) (As := [.int t0, .int 2, .int (X 48 28)]) (st := []) O dX10_takeNumber_166 ci_X10_want ml_X10_194 mi_X10_want sh_48 rfl ⟨rfl, rfl, (by decide), (by decide)⟩ rfl (Nat.le_of_ble_eq_true rfl) rfl (mX10_want h) (k_I (fun r1 X2 Y3 h4 => ?_))
  refine v_istore (lv' := [(5, .int r1), (0, .ref 48), (4, .int a4)]) O dX10_takeNumber_169 (by decide) rfl ?_
  refine v_iload O dX10_takeNumber_171 2 rfl ?_
  exact v_iret O r dX10_takeNumber_173 ⟨_, rfl, h4⟩
set_option maxHeartbeats 4000000 in
set_option maxRecDepth 100000 in
theorem kX10_takeNumber_s {Γ : Cxt} {Q : Int32 → XT → YT → Prop} (O : Ok Γ RX10 cX10_takeNumber 6 { frames := 1, cells := 0, slots := 0, locals := 25 }) (r : Ret Γ (some .int) (qI Q)) {I50 : Int32 → Int32 → Int32 → XT → YT → Prop} {I129 : Int32 → Int32 → Int32 → XT → YT → Prop} {I160 : Int32 → XT → YT → Prop} {I161 : Int32 → Int32 → XT → YT → Prop} (e50 : ∀ (a1 : Int32) (a2 : Int32) (a4 : Int32) (X : XT) (Y : YT), I50 a1 a2 a4 X Y → V Γ 50 [(0, .ref 48), (1, .int a1), (2, .int a2), (4, .int a4)] [] X Y) (e129 : ∀ (a1 : Int32) (a2 : Int32) (a4 : Int32) (X : XT) (Y : YT), I129 a1 a2 a4 X Y → V Γ 129 [(0, .ref 48), (1, .int a1), (2, .int a2), (4, .int a4)] [] X Y) (e160 : ∀ (a4 : Int32) (X : XT) (Y : YT), I160 a4 X Y → V Γ 160 [(0, .ref 48), (4, .int a4)] [.ref 48] X Y) (e161 : ∀ (a4 : Int32) (t0 : Int32) (X : XT) (Y : YT), I161 a4 t0 X Y → V Γ 161 [(0, .ref 48), (4, .int a4)] [.int t0, .ref 48] X Y) {p0 : Int32} {p1 : Int32} {X : XT} {Y : YT} (h : BX10_takeNumber_s I50 I129 I160 I161 Q p0 p1 X Y) : V Γ 0 [(0, .ref 48), (1, .int p0), (2, .int p1)] [] X Y := by
  refine v_aload_n O dX10_takeNumber_0 rfl 0 rfl ?_
  refine v_get O dX10_takeNumber_1 fo_X10_178 sh_48 rfl rfl ?_
  refine v_if_le (tgt := 9) O dX10_takeNumber_4 (by decide) (fun g1 => ?_) (fun g1 => ?_)
  · refine v_aload_n O dX10_takeNumber_9 rfl 0 rfl ?_
    refine v_callV (rm' := { frames := 0, cells := 0, slots := 0, locals := 0 }) (As := []) (st := []) O dX10_takeNumber_10 ci_X10_here ml_X10_181 mi_X10_here sh_48 rfl ⟨rfl, rfl, (by decide), (by decide)⟩ rfl (Nat.le_of_ble_eq_true rfl) rfl (mX10_here (h.1 g1)) (k_I (fun r2 X3 Y4 h5 => ?_))
    refine v_istore_n (lv' := [(3, .int r2), (0, .ref 48), (1, .int p0), (2, .int p1)]) O dX10_takeNumber_13 rfl (by decide) rfl ?_
    refine v_aload_n O dX10_takeNumber_14 rfl 1 rfl ?_
    refine v_aload_n O dX10_takeNumber_15 rfl 1 rfl ?_
    refine v_get O dX10_takeNumber_16 fo_X10_175 sh_48 rfl rfl ?_
    refine v_putI O dX10_takeNumber_19 fo_X10_184 fp_10_28 sh_48 rfl rfl rfl ?_
    refine v_aload_n O dX10_takeNumber_22 rfl 1 rfl ?_
    refine v_iload_n O dX10_takeNumber_23 rfl 0 rfl ?_
    refine v_i2l O dX10_takeNumber_24 ?_
    refine v_ldc2 O dX10_takeNumber_25 kl_X10_190 ?_
    refine v_ldc2 O dX10_takeNumber_28 kl_X10_192 ?_
    refine v_callS (rm' := { frames := 0, cells := 0, slots := 0, locals := 0 }) (As := [.long (r2.toInt64), .long (48 : Int64), .long (57 : Int64)]) (st := [.ref 48]) O dX10_takeNumber_31 ci_X10_in ml_X10_108 ms_X10_in ⟨rfl, rfl, (by decide), (by decide)⟩ rfl (Nat.le_of_ble_eq_true rfl) rfl (mX10_in h5) (k_I (fun r6 X7 Y8 h9 => ?_))
    refine v_iconst O dX10_takeNumber_34 kc_1 ?_
    refine v_aload_n O dX10_takeNumber_35 rfl 1 rfl ?_
    refine v_get O dX10_takeNumber_36 fo_X10_175 sh_48 rfl rfl ?_
    refine v_callV (rm' := { frames := 0, cells := 0, slots := 0, locals := 0 }) (As := [.int r6, .int 1, .int (X7 48 27)]) (st := []) O dX10_takeNumber_39 ci_X10_want ml_X10_194 mi_X10_want sh_48 rfl ⟨rfl, rfl, (by decide), (by decide)⟩ rfl (Nat.le_of_ble_eq_true rfl) rfl (mX10_want h9) (k_I (fun r10 X11 Y12 h13 => ?_))
    refine v_if_ne (tgt := 47) O dX10_takeNumber_42 (by decide) (fun g14 => ?_) (fun g14 => ?_)
    · refine v_iconst O dX10_takeNumber_47 kc_0 ?_
      refine v_istore (lv' := [(4, .int 0), (3, .int r2), (0, .ref 48), (1, .int p0), (2, .int p1)]) O dX10_takeNumber_48 (by decide) rfl ?_
      exact v_loc [2, 3, 4, 0] rfl (e50 p0 p1 0 X11 Y12 (h13.1 g14))
    · refine v_iconst O dX10_takeNumber_45 kc_0 ?_
      exact v_iret O r dX10_takeNumber_46 ⟨_, rfl, (h13.2 g14)⟩
  · refine v_iconst O dX10_takeNumber_7 kc_0 ?_
    exact v_iret O r dX10_takeNumber_8 ⟨_, rfl, (h.2 g1)⟩
set_option maxRecDepth 100000 in
theorem mX10_takeNumber {Γ : Cxt} {p0 : Int32} {p1 : Int32} {X : XT} {Y : YT} {Q : Int32 → XT → YT → Prop} (h : PX10_takeNumber p0 p1 X Y Q) : MT Γ yX10_takeNumber (.code yX10_takeNumber cX10_takeNumber 6 (some .int) :: wl) { frames := 1, cells := 0, slots := 0, locals := 25 } [.ref 48, .int p0, .int p1] X Y (qI Q) :=
  mt_of (by decide) (Nat.le_of_ble_eq_true rfl) (fun Γ _ O r => kX10_takeNumber_s O r (fun _ _ _ _ _ g => g) (fun _ _ _ _ _ g => g) (fun _ _ _ g => g) (fun _ _ _ _ g => g) (h (fun a1 a2 a4 X Y => V Γ 50 [(0, .ref 48), (1, .int a1), (2, .int a2), (4, .int a4)] [] X Y) (fun a1 a2 a4 X Y => V Γ 129 [(0, .ref 48), (1, .int a1), (2, .int a2), (4, .int a4)] [] X Y) (fun a4 X Y => V Γ 160 [(0, .ref 48), (4, .int a4)] [.ref 48] X Y) (fun a4 t0 X Y => V Γ 161 [(0, .ref 48), (4, .int a4)] [.int t0, .ref 48] X Y) (fun _ _ _ _ _ g => kX10_takeNumber_50 O r (fun _ _ _ _ _ g => g) (fun _ _ _ _ _ g => g) (fun _ _ _ g => g) (fun _ _ _ _ g => g) g) (fun _ _ _ _ _ g => kX10_takeNumber_129 O r (fun _ _ _ _ _ g => g) (fun _ _ _ _ _ g => g) (fun _ _ _ g => g) (fun _ _ _ _ g => g) g) (fun _ _ _ g => kX10_takeNumber_160 O r (fun _ _ _ _ _ g => g) (fun _ _ _ _ _ g => g) (fun _ _ _ g => g) (fun _ _ _ _ g => g) g) (fun _ _ _ _ g => kX10_takeNumber_161 O r (fun _ _ _ _ _ g => g) (fun _ _ _ _ _ g => g) (fun _ _ _ g => g) (fun _ _ _ _ g => g) g)))
theorem dX10_takeSign_0 : decode cX10_takeSign 0 = .ok (.aload_n 0, 1) := by decide +kernel
theorem dX10_takeSign_1 : decode cX10_takeSign 1 = .ok (.getfield 178, 3) := by decide +kernel
theorem dX10_takeSign_4 : decode cX10_takeSign 4 = .ok (.ifCond .ne 39, 3) := by decide +kernel
theorem dX10_takeSign_7 : decode cX10_takeSign 7 = .ok (.aload_n 0, 1) := by decide +kernel
theorem dX10_takeSign_8 : decode cX10_takeSign 8 = .ok (.invokevirtual 181, 3) := by decide +kernel
theorem dX10_takeSign_11 : decode cX10_takeSign 11 = .ok (.istore_n 2, 1) := by decide +kernel
theorem dX10_takeSign_12 : decode cX10_takeSign 12 = .ok (.aload_n 0, 1) := by decide +kernel
theorem dX10_takeSign_13 : decode cX10_takeSign 13 = .ok (.dup, 1) := by decide +kernel
theorem dX10_takeSign_14 : decode cX10_takeSign 14 = .ok (.getfield 175, 3) := by decide +kernel
theorem dX10_takeSign_17 : decode cX10_takeSign 17 = .ok (.aload_n 0, 1) := by decide +kernel
theorem dX10_takeSign_18 : decode cX10_takeSign 18 = .ok (.iload_n 2, 1) := by decide +kernel
theorem dX10_takeSign_19 : decode cX10_takeSign 19 = .ok (.iload_n 1, 1) := by decide +kernel
theorem dX10_takeSign_20 : decode cX10_takeSign 20 = .ok (.if_icmp .ne 7, 3) := by decide +kernel
theorem dX10_takeSign_23 : decode cX10_takeSign 23 = .ok (.iconst 1, 1) := by decide +kernel
theorem dX10_takeSign_24 : decode cX10_takeSign 24 = .ok (.goto 4, 3) := by decide +kernel
theorem dX10_takeSign_27 : decode cX10_takeSign 27 = .ok (.iconst 0, 1) := by decide +kernel
theorem dX10_takeSign_28 : decode cX10_takeSign 28 = .ok (.iconst 1, 1) := by decide +kernel
theorem dX10_takeSign_29 : decode cX10_takeSign 29 = .ok (.aload_n 0, 1) := by decide +kernel
theorem dX10_takeSign_30 : decode cX10_takeSign 30 = .ok (.getfield 175, 3) := by decide +kernel
theorem dX10_takeSign_33 : decode cX10_takeSign 33 = .ok (.invokevirtual 194, 3) := by decide +kernel
theorem dX10_takeSign_36 : decode cX10_takeSign 36 = .ok (.invokestatic 198, 3) := by decide +kernel
theorem dX10_takeSign_39 : decode cX10_takeSign 39 = .ok (.iadd, 1) := by decide +kernel
theorem dX10_takeSign_40 : decode cX10_takeSign 40 = .ok (.putfield 175, 3) := by decide +kernel
theorem dX10_takeSign_43 : decode cX10_takeSign 43 = .ok (.return_, 1) := by decide +kernel
def BX10_takeSign_28 (I28 : Int32 → Int32 → XT → YT → Prop) (Q : XT → YT → Prop) (t0 : Int32) (t2 : Int32) (X : XT) (Y : YT) : Prop :=
  PX10_want t0 1 (X 48 27) X Y (fun r1 X2 Y3 => PX10_one r1 X2 Y3 (fun r5 X6 Y7 => Q (sX X6 48 27 (t2 + r5)) Y7))
def BX10_takeSign_s (I28 : Int32 → Int32 → XT → YT → Prop) (Q : XT → YT → Prop) (p0 : Int32) (X : XT) (Y : YT) : Prop :=
  ((¬ (X 48 30) = 0 → Q X Y) ∧ ((X 48 30) = 0 → PX10_here X Y (fun r2 X3 Y4 => ((¬ r2 = p0 → I28 0 (X3 48 27) X3 Y4) ∧ (r2 = p0 → I28 1 (X3 48 27) X3 Y4)))))
def PX10_takeSign (p0 : Int32) (X : XT) (Y : YT) (Q : XT → YT → Prop) : Prop := ∀ (I28 : Int32 → Int32 → XT → YT → Prop), (∀ (t0 : Int32) (t2 : Int32) (X : XT) (Y : YT), BX10_takeSign_28 I28 Q t0 t2 X Y → I28 t0 t2 X Y) → BX10_takeSign_s I28 Q p0 X Y
set_option maxHeartbeats 4000000 in
set_option maxRecDepth 100000 in
theorem kX10_takeSign_28 {Γ : Cxt} {Q : XT → YT → Prop} (O : Ok Γ RX10 cX10_takeSign 3 { frames := 1, cells := 0, slots := 0, locals := 23 }) (r : Ret Γ none (qV Q)) {I28 : Int32 → Int32 → XT → YT → Prop} (e28 : ∀ (t0 : Int32) (t2 : Int32) (X : XT) (Y : YT), I28 t0 t2 X Y → V Γ 28 [(0, .ref 48)] [.int t0, .ref 48, .int t2, .ref 48] X Y) {t0 : Int32} {t2 : Int32} {X : XT} {Y : YT} (h : BX10_takeSign_28 I28 Q t0 t2 X Y) : V Γ 28 [(0, .ref 48)] [.int t0, .ref 48, .int t2, .ref 48] X Y := by
  refine v_iconst O dX10_takeSign_28 kc_1 ?_
  refine v_aload_n O dX10_takeSign_29 rfl 0 rfl ?_
  refine v_get O dX10_takeSign_30 fo_X10_175 sh_48 rfl rfl ?_
  refine v_callV (rm' := { frames := 0, cells := 0, slots := 0, locals := 0 }) (As := [.int t0, .int 1, .int (X 48 27)]) (st := [.int t2, .ref 48]) O dX10_takeSign_33 ci_X10_want ml_X10_194 mi_X10_want sh_48 rfl ⟨rfl, rfl, (by decide), (by decide)⟩ rfl (Nat.le_of_ble_eq_true rfl) rfl (mX10_want h) (k_I (fun r1 X2 Y3 h4 => ?_))
  refine v_callS (rm' := { frames := 0, cells := 0, slots := 0, locals := 0 }) (As := [.int r1]) (st := [.int t2, .ref 48]) O dX10_takeSign_36 ci_X10_one ml_X10_198 ms_X10_one ⟨rfl, rfl, (by decide), (by decide)⟩ rfl (Nat.le_of_ble_eq_true rfl) rfl (mX10_one h4) (k_I (fun r5 X6 Y7 h8 => ?_))
  refine v_iadd O dX10_takeSign_39 ?_
  refine v_putI O dX10_takeSign_40 fo_X10_175 fp_10_27 sh_48 rfl rfl rfl ?_
  exact v_vret O r dX10_takeSign_43 ⟨rfl, h8⟩
set_option maxHeartbeats 4000000 in
set_option maxRecDepth 100000 in
theorem kX10_takeSign_s {Γ : Cxt} {Q : XT → YT → Prop} (O : Ok Γ RX10 cX10_takeSign 3 { frames := 1, cells := 0, slots := 0, locals := 23 }) (r : Ret Γ none (qV Q)) {I28 : Int32 → Int32 → XT → YT → Prop} (e28 : ∀ (t0 : Int32) (t2 : Int32) (X : XT) (Y : YT), I28 t0 t2 X Y → V Γ 28 [(0, .ref 48)] [.int t0, .ref 48, .int t2, .ref 48] X Y) {p0 : Int32} {X : XT} {Y : YT} (h : BX10_takeSign_s I28 Q p0 X Y) : V Γ 0 [(0, .ref 48), (1, .int p0)] [] X Y := by
  refine v_aload_n O dX10_takeSign_0 rfl 0 rfl ?_
  refine v_get O dX10_takeSign_1 fo_X10_178 sh_48 rfl rfl ?_
  refine v_if_ne (tgt := 43) O dX10_takeSign_4 (by decide) (fun g1 => ?_) (fun g1 => ?_)
  · exact v_vret O r dX10_takeSign_43 ⟨rfl, (h.1 g1)⟩
  · refine v_aload_n O dX10_takeSign_7 rfl 0 rfl ?_
    refine v_callV (rm' := { frames := 0, cells := 0, slots := 0, locals := 0 }) (As := []) (st := []) O dX10_takeSign_8 ci_X10_here ml_X10_181 mi_X10_here sh_48 rfl ⟨rfl, rfl, (by decide), (by decide)⟩ rfl (Nat.le_of_ble_eq_true rfl) rfl (mX10_here (h.2 g1)) (k_I (fun r2 X3 Y4 h5 => ?_))
    refine v_istore_n (lv' := [(2, .int r2), (0, .ref 48), (1, .int p0)]) O dX10_takeSign_11 rfl (by decide) rfl ?_
    refine v_aload_n O dX10_takeSign_12 rfl 1 rfl ?_
    refine v_dup O dX10_takeSign_13 rfl ?_
    refine v_get O dX10_takeSign_14 fo_X10_175 sh_48 rfl rfl ?_
    refine v_aload_n O dX10_takeSign_17 rfl 1 rfl ?_
    refine v_iload_n O dX10_takeSign_18 rfl 0 rfl ?_
    refine v_iload_n O dX10_takeSign_19 rfl 2 rfl ?_
    refine v_icmp_ne (tgt := 27) O dX10_takeSign_20 (by decide) (fun g6 => ?_) (fun g6 => ?_)
    · refine v_iconst O dX10_takeSign_27 kc_0 ?_
      exact v_loc [1] rfl (e28 0 (X3 48 27) X3 Y4 (h5.1 g6))
    · refine v_iconst O dX10_takeSign_23 kc_1 ?_
      refine v_goto O dX10_takeSign_24 (tgt := 28) (by decide) ?_
      exact v_loc [1] rfl (e28 1 (X3 48 27) X3 Y4 (h5.2 g6))
set_option maxRecDepth 100000 in
theorem mX10_takeSign {Γ : Cxt} {p0 : Int32} {X : XT} {Y : YT} {Q : XT → YT → Prop} (h : PX10_takeSign p0 X Y Q) : MT Γ yX10_takeSign (.code yX10_takeSign cX10_takeSign 3 none :: wl) { frames := 1, cells := 0, slots := 0, locals := 23 } [.ref 48, .int p0] X Y (qV Q) :=
  mt_of (by decide) (Nat.le_of_ble_eq_true rfl) (fun Γ _ O r => kX10_takeSign_s O r (fun _ _ _ _ g => g) (h (fun t0 t2 X Y => V Γ 28 [(0, .ref 48)] [.int t0, .ref 48, .int t2, .ref 48] X Y) (fun _ _ _ _ g => kX10_takeSign_28 O r (fun _ _ _ _ g => g) g)))
theorem dX10_takeName_0 : decode cX10_takeName 0 = .ok (.aload_n 0, 1) := by decide +kernel
theorem dX10_takeName_1 : decode cX10_takeName 1 = .ok (.invokevirtual 202, 3) := by decide +kernel
theorem dX10_takeName_4 : decode cX10_takeName 4 = .ok (.aload_n 0, 1) := by decide +kernel
theorem dX10_takeName_5 : decode cX10_takeName 5 = .ok (.getfield 187, 3) := by decide +kernel
theorem dX10_takeName_8 : decode cX10_takeName 8 = .ok (.ifCond .le 18, 3) := by decide +kernel
theorem dX10_takeName_11 : decode cX10_takeName 11 = .ok (.aload_n 0, 1) := by decide +kernel
theorem dX10_takeName_12 : decode cX10_takeName 12 = .ok (.aload_n 0, 1) := by decide +kernel
theorem dX10_takeName_13 : decode cX10_takeName 13 = .ok (.getfield 184, 3) := by decide +kernel
theorem dX10_takeName_16 : decode cX10_takeName 16 = .ok (.aload_n 0, 1) := by decide +kernel
theorem dX10_takeName_17 : decode cX10_takeName 17 = .ok (.getfield 187, 3) := by decide +kernel
theorem dX10_takeName_20 : decode cX10_takeName 20 = .ok (.invokevirtual 132, 3) := by decide +kernel
theorem dX10_takeName_23 : decode cX10_takeName 23 = .ok (.goto 4, 3) := by decide +kernel
theorem dX10_takeName_26 : decode cX10_takeName 26 = .ok (.iconst (-1), 1) := by decide +kernel
theorem dX10_takeName_27 : decode cX10_takeName 27 = .ok (.istore_n 1, 1) := by decide +kernel
theorem dX10_takeName_28 : decode cX10_takeName 28 = .ok (.iload_n 1, 1) := by decide +kernel
theorem dX10_takeName_29 : decode cX10_takeName 29 = .ok (.ifCond .lt 7, 3) := by decide +kernel
theorem dX10_takeName_32 : decode cX10_takeName 32 = .ok (.iconst 1, 1) := by decide +kernel
theorem dX10_takeName_33 : decode cX10_takeName 33 = .ok (.goto 4, 3) := by decide +kernel
theorem dX10_takeName_36 : decode cX10_takeName 36 = .ok (.iconst 0, 1) := by decide +kernel
theorem dX10_takeName_37 : decode cX10_takeName 37 = .ok (.istore_n 2, 1) := by decide +kernel
theorem dX10_takeName_38 : decode cX10_takeName 38 = .ok (.iconst 0, 1) := by decide +kernel
theorem dX10_takeName_39 : decode cX10_takeName 39 = .ok (.istore_n 3, 1) := by decide +kernel
theorem dX10_takeName_40 : decode cX10_takeName 40 = .ok (.iload_n 3, 1) := by decide +kernel
theorem dX10_takeName_41 : decode cX10_takeName 41 = .ok (.aload_n 0, 1) := by decide +kernel
theorem dX10_takeName_42 : decode cX10_takeName 42 = .ok (.getfield 205, 3) := by decide +kernel
theorem dX10_takeName_45 : decode cX10_takeName 45 = .ok (.if_icmp .ge 29, 3) := by decide +kernel
theorem dX10_takeName_48 : decode cX10_takeName 48 = .ok (.iload_n 2, 1) := by decide +kernel
theorem dX10_takeName_49 : decode cX10_takeName 49 = .ok (.ifCond .eq 25, 3) := by decide +kernel
theorem dX10_takeName_52 : decode cX10_takeName 52 = .ok (.aload_n 0, 1) := by decide +kernel
theorem dX10_takeName_53 : decode cX10_takeName 53 = .ok (.getfield 74, 3) := by decide +kernel
theorem dX10_takeName_56 : decode cX10_takeName 56 = .ok (.iload_n 3, 1) := by decide +kernel
theorem dX10_takeName_57 : decode cX10_takeName 57 = .ok (.iaload, 1) := by decide +kernel
theorem dX10_takeName_58 : decode cX10_takeName 58 = .ok (.iload_n 1, 1) := by decide +kernel
theorem dX10_takeName_59 : decode cX10_takeName 59 = .ok (.if_icmp .eq 7, 3) := by decide +kernel
theorem dX10_takeName_62 : decode cX10_takeName 62 = .ok (.iconst 1, 1) := by decide +kernel
theorem dX10_takeName_63 : decode cX10_takeName 63 = .ok (.goto 4, 3) := by decide +kernel
theorem dX10_takeName_66 : decode cX10_takeName 66 = .ok (.iconst 0, 1) := by decide +kernel
theorem dX10_takeName_67 : decode cX10_takeName 67 = .ok (.istore_n 2, 1) := by decide +kernel
theorem dX10_takeName_68 : decode cX10_takeName 68 = .ok (.iinc 3 1, 3) := by decide +kernel
theorem dX10_takeName_71 : decode cX10_takeName 71 = .ok (.goto (-31), 3) := by decide +kernel
theorem dX10_takeName_74 : decode cX10_takeName 74 = .ok (.aload_n 0, 1) := by decide +kernel
theorem dX10_takeName_75 : decode cX10_takeName 75 = .ok (.aload_n 0, 1) := by decide +kernel
theorem dX10_takeName_76 : decode cX10_takeName 76 = .ok (.getfield 187, 3) := by decide +kernel
theorem dX10_takeName_79 : decode cX10_takeName 79 = .ok (.ifCond .le 7, 3) := by decide +kernel
theorem dX10_takeName_82 : decode cX10_takeName 82 = .ok (.iconst 1, 1) := by decide +kernel
theorem dX10_takeName_83 : decode cX10_takeName 83 = .ok (.goto 4, 3) := by decide +kernel
theorem dX10_takeName_86 : decode cX10_takeName 86 = .ok (.iconst 0, 1) := by decide +kernel
theorem dX10_takeName_87 : decode cX10_takeName 87 = .ok (.iconst 1, 1) := by decide +kernel
theorem dX10_takeName_88 : decode cX10_takeName 88 = .ok (.aload_n 0, 1) := by decide +kernel
theorem dX10_takeName_89 : decode cX10_takeName 89 = .ok (.getfield 184, 3) := by decide +kernel
theorem dX10_takeName_92 : decode cX10_takeName 92 = .ok (.invokevirtual 194, 3) := by decide +kernel
theorem dX10_takeName_95 : decode cX10_takeName 95 = .ok (.ifCond .eq 26, 3) := by decide +kernel
theorem dX10_takeName_98 : decode cX10_takeName 98 = .ok (.aload_n 0, 1) := by decide +kernel
theorem dX10_takeName_99 : decode cX10_takeName 99 = .ok (.iload_n 2, 1) := by decide +kernel
theorem dX10_takeName_100 : decode cX10_takeName 100 = .ok (.iconst 3, 1) := by decide +kernel
theorem dX10_takeName_101 : decode cX10_takeName 101 = .ok (.aload_n 0, 1) := by decide +kernel
theorem dX10_takeName_102 : decode cX10_takeName 102 = .ok (.getfield 184, 3) := by decide +kernel
theorem dX10_takeName_105 : decode cX10_takeName 105 = .ok (.invokevirtual 194, 3) := by decide +kernel
theorem dX10_takeName_108 : decode cX10_takeName 108 = .ok (.ifCond .eq 13, 3) := by decide +kernel
theorem dX10_takeName_111 : decode cX10_takeName 111 = .ok (.aload_n 0, 1) := by decide +kernel
theorem dX10_takeName_112 : decode cX10_takeName 112 = .ok (.getfield 74, 3) := by decide +kernel
theorem dX10_takeName_115 : decode cX10_takeName 115 = .ok (.aload_n 0, 1) := by decide +kernel
theorem dX10_takeName_116 : decode cX10_takeName 116 = .ok (.getfield 205, 3) := by decide +kernel
theorem dX10_takeName_119 : decode cX10_takeName 119 = .ok (.iload_n 1, 1) := by decide +kernel
theorem dX10_takeName_120 : decode cX10_takeName 120 = .ok (.iastore, 1) := by decide +kernel
theorem dX10_takeName_121 : decode cX10_takeName 121 = .ok (.return_, 1) := by decide +kernel
def BX10_takeName_40 (I40 : Int32 → Int32 → Int32 → XT → YT → Prop) (I74 : Int32 → Int32 → XT → YT → Prop) (I87 : Int32 → Int32 → Int32 → XT → YT → Prop) (Q : XT → YT → Prop) (a1 : Int32) (a2 : Int32) (a3 : Int32) (X : XT) (Y : YT) : Prop :=
  (((X 48 32) ≤ a3 → I74 a1 a2 X Y) ∧ (¬ (X 48 32) ≤ a3 → ((a2 = 0 → I74 a1 a2 X Y) ∧ (¬ a2 = 0 → vp_in a3 4 ∧ (((X 69 a3.toNatClampNeg) = a1 → ∀ w4 : Int32, w4 = a3 + 1 → I40 a1 0 w4 X Y) ∧ (¬ (X 69 a3.toNatClampNeg) = a1 → ∀ w6 : Int32, w6 = a3 + 1 → I40 a1 1 w6 X Y))))))
def BX10_takeName_74 (I40 : Int32 → Int32 → Int32 → XT → YT → Prop) (I74 : Int32 → Int32 → XT → YT → Prop) (I87 : Int32 → Int32 → Int32 → XT → YT → Prop) (Q : XT → YT → Prop) (a1 : Int32) (a2 : Int32) (X : XT) (Y : YT) : Prop :=
  (((X 48 29) ≤ 0 → I87 a1 a2 0 X Y) ∧ (¬ (X 48 29) ≤ 0 → I87 a1 a2 1 X Y))
def BX10_takeName_87 (I40 : Int32 → Int32 → Int32 → XT → YT → Prop) (I74 : Int32 → Int32 → XT → YT → Prop) (I87 : Int32 → Int32 → Int32 → XT → YT → Prop) (Q : XT → YT → Prop) (a1 : Int32) (a2 : Int32) (t0 : Int32) (X : XT) (Y : YT) : Prop :=
  PX10_want t0 1 (X 48 28) X Y (fun r1 X2 Y3 => ((r1 = 0 → Q X2 Y3) ∧ (¬ r1 = 0 → PX10_want a2 3 (X2 48 28) X2 Y3 (fun r6 X7 Y8 => ((r6 = 0 → Q X7 Y8) ∧ (¬ r6 = 0 → vp_in (X7 48 32) 4 ∧ Q (sX X7 69 (X7 48 32).toNatClampNeg a1) Y8))))))
def BX10_takeName_s (I40 : Int32 → Int32 → Int32 → XT → YT → Prop) (I74 : Int32 → Int32 → XT → YT → Prop) (I87 : Int32 → Int32 → Int32 → XT → YT → Prop) (Q : XT → YT → Prop) (X : XT) (Y : YT) : Prop :=
  PX10_takeWord X Y (fun X2 Y3 => (((X2 48 29) ≤ 0 → (((-1 : Int32) < 0 → I40 (-1) 0 0 X2 Y3) ∧ (¬ (-1 : Int32) < 0 → I40 (-1) 1 0 X2 Y3))) ∧ (¬ (X2 48 29) ≤ 0 → PX10_nameAt (X2 48 28) (X2 48 29) X2 Y3 (fun r7 X8 Y9 => ((r7 < 0 → I40 r7 0 0 X8 Y9) ∧ (¬ r7 < 0 → I40 r7 1 0 X8 Y9))))))
def PX10_takeName (X : XT) (Y : YT) (Q : XT → YT → Prop) : Prop := ∀ (I40 : Int32 → Int32 → Int32 → XT → YT → Prop) (I74 : Int32 → Int32 → XT → YT → Prop) (I87 : Int32 → Int32 → Int32 → XT → YT → Prop), (∀ (a1 : Int32) (a2 : Int32) (a3 : Int32) (X : XT) (Y : YT), BX10_takeName_40 I40 I74 I87 Q a1 a2 a3 X Y → I40 a1 a2 a3 X Y) → (∀ (a1 : Int32) (a2 : Int32) (X : XT) (Y : YT), BX10_takeName_74 I40 I74 I87 Q a1 a2 X Y → I74 a1 a2 X Y) → (∀ (a1 : Int32) (a2 : Int32) (t0 : Int32) (X : XT) (Y : YT), BX10_takeName_87 I40 I74 I87 Q a1 a2 t0 X Y → I87 a1 a2 t0 X Y) → BX10_takeName_s I40 I74 I87 Q X Y
set_option maxHeartbeats 4000000 in
set_option maxRecDepth 100000 in
theorem kX10_takeName_40 {Γ : Cxt} {Q : XT → YT → Prop} (O : Ok Γ RX10 cX10_takeName 4 { frames := 2, cells := 0, slots := 0, locals := 46 }) (r : Ret Γ none (qV Q)) {I40 : Int32 → Int32 → Int32 → XT → YT → Prop} {I74 : Int32 → Int32 → XT → YT → Prop} {I87 : Int32 → Int32 → Int32 → XT → YT → Prop} (e40 : ∀ (a1 : Int32) (a2 : Int32) (a3 : Int32) (X : XT) (Y : YT), I40 a1 a2 a3 X Y → V Γ 40 [(0, .ref 48), (1, .int a1), (2, .int a2), (3, .int a3)] [] X Y) (e74 : ∀ (a1 : Int32) (a2 : Int32) (X : XT) (Y : YT), I74 a1 a2 X Y → V Γ 74 [(0, .ref 48), (1, .int a1), (2, .int a2)] [] X Y) (e87 : ∀ (a1 : Int32) (a2 : Int32) (t0 : Int32) (X : XT) (Y : YT), I87 a1 a2 t0 X Y → V Γ 87 [(0, .ref 48), (1, .int a1), (2, .int a2)] [.int t0, .ref 48] X Y) {a1 : Int32} {a2 : Int32} {a3 : Int32} {X : XT} {Y : YT} (h : BX10_takeName_40 I40 I74 I87 Q a1 a2 a3 X Y) : V Γ 40 [(0, .ref 48), (1, .int a1), (2, .int a2), (3, .int a3)] [] X Y := by
  refine v_iload_n O dX10_takeName_40 rfl 3 rfl ?_
  refine v_aload_n O dX10_takeName_41 rfl 0 rfl ?_
  refine v_get O dX10_takeName_42 fo_X10_205 sh_48 rfl rfl ?_
  refine v_icmp_ge (tgt := 74) O dX10_takeName_45 (by decide) (fun g1 => ?_) (fun g1 => ?_)
  · exact v_loc [0, 1, 2] rfl (e74 a1 a2 X Y (h.1 g1))
  · refine v_iload_n O dX10_takeName_48 rfl 2 rfl ?_
    refine v_if_eq (tgt := 74) O dX10_takeName_49 (by decide) (fun g2 => ?_) (fun g2 => ?_)
    · exact v_loc [0, 1, 2] rfl (e74 a1 a2 X Y ((h.2 g1).1 g2))
    · refine v_aload_n O dX10_takeName_52 rfl 0 rfl ?_
      refine v_get O dX10_takeName_53 fo_X10_74 sh_48 rfl rfl ?_
      refine v_iload_n O dX10_takeName_56 rfl 3 rfl ?_
      refine v_iald O dX10_takeName_57 sh_69 ((h.2 g1).2 g2).1 ?_
      refine v_iload_n O dX10_takeName_58 rfl 1 rfl ?_
      refine v_icmp_eq (tgt := 66) O dX10_takeName_59 (by decide) (fun g3 => ?_) (fun g3 => ?_)
      · refine v_iconst O dX10_takeName_66 kc_0 ?_
        refine v_istore_n (lv' := [(2, .int 0), (0, .ref 48), (1, .int a1), (3, .int a3)]) O dX10_takeName_67 rfl (by decide) rfl ?_
        obtain ⟨w4, hw5⟩ : ∃ y : Int32, y = a3 + 1 := ⟨_, rfl⟩
        refine v_iinc (v := w4) (j := 3) O dX10_takeName_68 rfl (by rw [hw5]; exact congrArg _ kc_1) (by decide) (lv' := [(3, .int w4), (2, .int 0), (0, .ref 48), (1, .int a1)]) rfl ?_
        refine v_goto O dX10_takeName_71 (tgt := 40) (by decide) ?_
        exact v_loc [2, 3, 1, 0] rfl (e40 a1 0 w4 X Y ((((h.2 g1).2 g2).2.1 g3) w4 hw5))
      · refine v_iconst O dX10_takeName_62 kc_1 ?_
        refine v_goto O dX10_takeName_63 (tgt := 67) (by decide) ?_
        refine v_istore_n (lv' := [(2, .int 1), (0, .ref 48), (1, .int a1), (3, .int a3)]) O dX10_takeName_67 rfl (by decide) rfl ?_
        obtain ⟨w6, hw7⟩ : ∃ y : Int32, y = a3 + 1 := ⟨_, rfl⟩
        refine v_iinc (v := w6) (j := 3) O dX10_takeName_68 rfl (by rw [hw7]; exact congrArg _ kc_1) (by decide) (lv' := [(3, .int w6), (2, .int 1), (0, .ref 48), (1, .int a1)]) rfl ?_
        refine v_goto O dX10_takeName_71 (tgt := 40) (by decide) ?_
        exact v_loc [2, 3, 1, 0] rfl (e40 a1 1 w6 X Y ((((h.2 g1).2 g2).2.2 g3) w6 hw7))
set_option maxHeartbeats 4000000 in
set_option maxRecDepth 100000 in
theorem kX10_takeName_74 {Γ : Cxt} {Q : XT → YT → Prop} (O : Ok Γ RX10 cX10_takeName 4 { frames := 2, cells := 0, slots := 0, locals := 46 }) (r : Ret Γ none (qV Q)) {I40 : Int32 → Int32 → Int32 → XT → YT → Prop} {I74 : Int32 → Int32 → XT → YT → Prop} {I87 : Int32 → Int32 → Int32 → XT → YT → Prop} (e40 : ∀ (a1 : Int32) (a2 : Int32) (a3 : Int32) (X : XT) (Y : YT), I40 a1 a2 a3 X Y → V Γ 40 [(0, .ref 48), (1, .int a1), (2, .int a2), (3, .int a3)] [] X Y) (e74 : ∀ (a1 : Int32) (a2 : Int32) (X : XT) (Y : YT), I74 a1 a2 X Y → V Γ 74 [(0, .ref 48), (1, .int a1), (2, .int a2)] [] X Y) (e87 : ∀ (a1 : Int32) (a2 : Int32) (t0 : Int32) (X : XT) (Y : YT), I87 a1 a2 t0 X Y → V Γ 87 [(0, .ref 48), (1, .int a1), (2, .int a2)] [.int t0, .ref 48] X Y) {a1 : Int32} {a2 : Int32} {X : XT} {Y : YT} (h : BX10_takeName_74 I40 I74 I87 Q a1 a2 X Y) : V Γ 74 [(0, .ref 48), (1, .int a1), (2, .int a2)] [] X Y := by
  refine v_aload_n O dX10_takeName_74 rfl 0 rfl ?_
  refine v_aload_n O dX10_takeName_75 rfl 0 rfl ?_
  refine v_get O dX10_takeName_76 fo_X10_187 sh_48 rfl rfl ?_
  refine v_if_le (tgt := 86) O dX10_takeName_79 (by decide) (fun g1 => ?_) (fun g1 => ?_)
  · refine v_iconst O dX10_takeName_86 kc_0 ?_
    exact v_loc [0, 1, 2] rfl (e87 a1 a2 0 X Y (h.1 g1))
  · refine v_iconst O dX10_takeName_82 kc_1 ?_
    refine v_goto O dX10_takeName_83 (tgt := 87) (by decide) ?_
    exact v_loc [0, 1, 2] rfl (e87 a1 a2 1 X Y (h.2 g1))
set_option maxHeartbeats 4000000 in
set_option maxRecDepth 100000 in
theorem kX10_takeName_87 {Γ : Cxt} {Q : XT → YT → Prop} (O : Ok Γ RX10 cX10_takeName 4 { frames := 2, cells := 0, slots := 0, locals := 46 }) (r : Ret Γ none (qV Q)) {I40 : Int32 → Int32 → Int32 → XT → YT → Prop} {I74 : Int32 → Int32 → XT → YT → Prop} {I87 : Int32 → Int32 → Int32 → XT → YT → Prop} (e40 : ∀ (a1 : Int32) (a2 : Int32) (a3 : Int32) (X : XT) (Y : YT), I40 a1 a2 a3 X Y → V Γ 40 [(0, .ref 48), (1, .int a1), (2, .int a2), (3, .int a3)] [] X Y) (e74 : ∀ (a1 : Int32) (a2 : Int32) (X : XT) (Y : YT), I74 a1 a2 X Y → V Γ 74 [(0, .ref 48), (1, .int a1), (2, .int a2)] [] X Y) (e87 : ∀ (a1 : Int32) (a2 : Int32) (t0 : Int32) (X : XT) (Y : YT), I87 a1 a2 t0 X Y → V Γ 87 [(0, .ref 48), (1, .int a1), (2, .int a2)] [.int t0, .ref 48] X Y) {a1 : Int32} {a2 : Int32} {t0 : Int32} {X : XT} {Y : YT} (h : BX10_takeName_87 I40 I74 I87 Q a1 a2 t0 X Y) : V Γ 87 [(0, .ref 48), (1, .int a1), (2, .int a2)] [.int t0, .ref 48] X Y := by
  refine v_iconst O dX10_takeName_87 kc_1 ?_
  refine v_aload_n O dX10_takeName_88 rfl 0 rfl ?_
  refine v_get O dX10_takeName_89 fo_X10_184 sh_48 rfl rfl ?_
  refine v_callV (rm' := { frames := 0, cells := 0, slots := 0, locals := 0 }) (As := [.int t0, .int 1, .int (X 48 28)]) (st := []) O dX10_takeName_92 ci_X10_want ml_X10_194 mi_X10_want sh_48 rfl ⟨rfl, rfl, (by decide), (by decide)⟩ rfl (Nat.le_of_ble_eq_true rfl) rfl (mX10_want h) (k_I (fun r1 X2 Y3 h4 => ?_))
  refine v_if_eq (tgt := 121) O dX10_takeName_95 (by decide) (fun g5 => ?_) (fun g5 => ?_)
  · exact v_vret O r dX10_takeName_121 ⟨rfl, (h4.1 g5)⟩
  · refine v_aload_n O dX10_takeName_98 rfl 0 rfl ?_
    refine v_iload_n O dX10_takeName_99 rfl 2 rfl ?_
    refine v_iconst O dX10_takeName_100 kc_3 ?_
    refine v_aload_n O dX10_takeName_101 rfl 0 rfl ?_
    refine v_get O dX10_takeName_102 fo_X10_184 sh_48 rfl rfl ?_
    refine v_callV (rm' := { frames := 0, cells := 0, slots := 0, locals := 0 }) (As := [.int a2, .int 3, .int (X2 48 28)]) (st := []) O dX10_takeName_105 ci_X10_want ml_X10_194 mi_X10_want sh_48 rfl ⟨rfl, rfl, (by decide), (by decide)⟩ rfl (Nat.le_of_ble_eq_true rfl) rfl (mX10_want (h4.2 g5)) (k_I (fun r6 X7 Y8 h9 => ?_))
    refine v_if_eq (tgt := 121) O dX10_takeName_108 (by decide) (fun g10 => ?_) (fun g10 => ?_)
    · exact v_vret O r dX10_takeName_121 ⟨rfl, (h9.1 g10)⟩
    · refine v_aload_n O dX10_takeName_111 rfl 0 rfl ?_
      refine v_get O dX10_takeName_112 fo_X10_74 sh_48 rfl rfl ?_
      refine v_aload_n O dX10_takeName_115 rfl 0 rfl ?_
      refine v_get O dX10_takeName_116 fo_X10_205 sh_48 rfl rfl ?_
      refine v_iload_n O dX10_takeName_119 rfl 1 rfl ?_
      refine v_iast O dX10_takeName_120 sh_69 (h9.2 g10).1 ?_
      exact v_vret O r dX10_takeName_121 ⟨rfl, (h9.2 g10).2⟩
set_option maxHeartbeats 4000000 in
set_option maxRecDepth 100000 in
theorem kX10_takeName_s {Γ : Cxt} {Q : XT → YT → Prop} (O : Ok Γ RX10 cX10_takeName 4 { frames := 2, cells := 0, slots := 0, locals := 46 }) (r : Ret Γ none (qV Q)) {I40 : Int32 → Int32 → Int32 → XT → YT → Prop} {I74 : Int32 → Int32 → XT → YT → Prop} {I87 : Int32 → Int32 → Int32 → XT → YT → Prop} (e40 : ∀ (a1 : Int32) (a2 : Int32) (a3 : Int32) (X : XT) (Y : YT), I40 a1 a2 a3 X Y → V Γ 40 [(0, .ref 48), (1, .int a1), (2, .int a2), (3, .int a3)] [] X Y) (e74 : ∀ (a1 : Int32) (a2 : Int32) (X : XT) (Y : YT), I74 a1 a2 X Y → V Γ 74 [(0, .ref 48), (1, .int a1), (2, .int a2)] [] X Y) (e87 : ∀ (a1 : Int32) (a2 : Int32) (t0 : Int32) (X : XT) (Y : YT), I87 a1 a2 t0 X Y → V Γ 87 [(0, .ref 48), (1, .int a1), (2, .int a2)] [.int t0, .ref 48] X Y) {X : XT} {Y : YT} (h : BX10_takeName_s I40 I74 I87 Q X Y) : V Γ 0 [(0, .ref 48)] [] X Y := by
  refine v_aload_n O dX10_takeName_0 rfl 0 rfl ?_
  refine v_callV (rm' := { frames := 1, cells := 0, slots := 0, locals := 25 }) (As := []) (st := []) O dX10_takeName_1 ci_X10_takeWord ml_X10_202 mi_X10_takeWord sh_48 rfl ⟨rfl, rfl, (by decide), (by decide)⟩ rfl (Nat.le_of_ble_eq_true rfl) rfl (mX10_takeWord h) (k_V (fun X2 Y3 h4 => ?_))
  refine v_aload_n O dX10_takeName_4 rfl 0 rfl ?_
  refine v_get O dX10_takeName_5 fo_X10_187 sh_48 rfl rfl ?_
  refine v_if_le (tgt := 26) O dX10_takeName_8 (by decide) (fun g5 => ?_) (fun g5 => ?_)
  · refine v_iconst O dX10_takeName_26 kc_m1 ?_
    refine v_istore_n (lv' := [(1, .int (-1)), (0, .ref 48)]) O dX10_takeName_27 rfl (by decide) rfl ?_
    refine v_iload_n O dX10_takeName_28 rfl 0 rfl ?_
    refine v_if_lt (tgt := 36) O dX10_takeName_29 (by decide) (fun g6 => ?_) (fun g6 => ?_)
    · refine v_iconst O dX10_takeName_36 kc_0 ?_
      refine v_istore_n (lv' := [(2, .int 0), (1, .int (-1)), (0, .ref 48)]) O dX10_takeName_37 rfl (by decide) rfl ?_
      refine v_iconst O dX10_takeName_38 kc_0 ?_
      refine v_istore_n (lv' := [(3, .int 0), (2, .int 0), (1, .int (-1)), (0, .ref 48)]) O dX10_takeName_39 rfl (by decide) rfl ?_
      exact v_loc [3, 2, 1, 0] rfl (e40 (-1) 0 0 X2 Y3 ((h4.1 g5).1 g6))
    · refine v_iconst O dX10_takeName_32 kc_1 ?_
      refine v_goto O dX10_takeName_33 (tgt := 37) (by decide) ?_
      refine v_istore_n (lv' := [(2, .int 1), (1, .int (-1)), (0, .ref 48)]) O dX10_takeName_37 rfl (by decide) rfl ?_
      refine v_iconst O dX10_takeName_38 kc_0 ?_
      refine v_istore_n (lv' := [(3, .int 0), (2, .int 1), (1, .int (-1)), (0, .ref 48)]) O dX10_takeName_39 rfl (by decide) rfl ?_
      exact v_loc [3, 2, 1, 0] rfl (e40 (-1) 1 0 X2 Y3 ((h4.1 g5).2 g6))
  · refine v_aload_n O dX10_takeName_11 rfl 0 rfl ?_
    refine v_aload_n O dX10_takeName_12 rfl 0 rfl ?_
    refine v_get O dX10_takeName_13 fo_X10_184 sh_48 rfl rfl ?_
    refine v_aload_n O dX10_takeName_16 rfl 0 rfl ?_
    refine v_get O dX10_takeName_17 fo_X10_187 sh_48 rfl rfl ?_
    refine v_callV (rm' := { frames := 0, cells := 0, slots := 0, locals := 0 }) (As := [.int (X2 48 28), .int (X2 48 29)]) (st := []) O dX10_takeName_20 ci_X10_nameAt ml_X10_132 mi_X10_nameAt sh_48 rfl ⟨rfl, rfl, (by decide), (by decide)⟩ rfl (Nat.le_of_ble_eq_true rfl) rfl (mX10_nameAt (h4.2 g5)) (k_I (fun r7 X8 Y9 h10 => ?_))
    refine v_goto O dX10_takeName_23 (tgt := 27) (by decide) ?_
    refine v_istore_n (lv' := [(1, .int r7), (0, .ref 48)]) O dX10_takeName_27 rfl (by decide) rfl ?_
    refine v_iload_n O dX10_takeName_28 rfl 0 rfl ?_
    refine v_if_lt (tgt := 36) O dX10_takeName_29 (by decide) (fun g11 => ?_) (fun g11 => ?_)
    · refine v_iconst O dX10_takeName_36 kc_0 ?_
      refine v_istore_n (lv' := [(2, .int 0), (1, .int r7), (0, .ref 48)]) O dX10_takeName_37 rfl (by decide) rfl ?_
      refine v_iconst O dX10_takeName_38 kc_0 ?_
      refine v_istore_n (lv' := [(3, .int 0), (2, .int 0), (1, .int r7), (0, .ref 48)]) O dX10_takeName_39 rfl (by decide) rfl ?_
      exact v_loc [3, 2, 1, 0] rfl (e40 r7 0 0 X8 Y9 (h10.1 g11))
    · refine v_iconst O dX10_takeName_32 kc_1 ?_
      refine v_goto O dX10_takeName_33 (tgt := 37) (by decide) ?_
      refine v_istore_n (lv' := [(2, .int 1), (1, .int r7), (0, .ref 48)]) O dX10_takeName_37 rfl (by decide) rfl ?_
      refine v_iconst O dX10_takeName_38 kc_0 ?_
      refine v_istore_n (lv' := [(3, .int 0), (2, .int 1), (1, .int r7), (0, .ref 48)]) O dX10_takeName_39 rfl (by decide) rfl ?_
      exact v_loc [3, 2, 1, 0] rfl (e40 r7 1 0 X8 Y9 (h10.2 g11))
set_option maxRecDepth 100000 in
theorem mX10_takeName {Γ : Cxt} {X : XT} {Y : YT} {Q : XT → YT → Prop} (h : PX10_takeName X Y Q) : MT Γ yX10_takeName (.code yX10_takeName cX10_takeName 4 none :: wl) { frames := 2, cells := 0, slots := 0, locals := 46 } [.ref 48] X Y (qV Q) :=
  mt_of (by decide) (Nat.le_of_ble_eq_true rfl) (fun Γ _ O r => kX10_takeName_s O r (fun _ _ _ _ _ g => g) (fun _ _ _ _ g => g) (fun _ _ _ _ _ g => g) (h (fun a1 a2 a3 X Y => V Γ 40 [(0, .ref 48), (1, .int a1), (2, .int a2), (3, .int a3)] [] X Y) (fun a1 a2 X Y => V Γ 74 [(0, .ref 48), (1, .int a1), (2, .int a2)] [] X Y) (fun a1 a2 t0 X Y => V Γ 87 [(0, .ref 48), (1, .int a1), (2, .int a2)] [.int t0, .ref 48] X Y) (fun _ _ _ _ _ g => kX10_takeName_40 O r (fun _ _ _ _ _ g => g) (fun _ _ _ _ g => g) (fun _ _ _ _ _ g => g) g) (fun _ _ _ _ g => kX10_takeName_74 O r (fun _ _ _ _ _ g => g) (fun _ _ _ _ g => g) (fun _ _ _ _ _ g => g) g) (fun _ _ _ _ _ g => kX10_takeName_87 O r (fun _ _ _ _ _ g => g) (fun _ _ _ _ g => g) (fun _ _ _ _ _ g => g) g)))
theorem dX10_takePlace_0 : decode cX10_takePlace 0 = .ok (.aload_n 0, 1) := by decide +kernel
theorem dX10_takePlace_1 : decode cX10_takePlace 1 = .ok (.invokevirtual 202, 3) := by decide +kernel
theorem dX10_takePlace_4 : decode cX10_takePlace 4 = .ok (.aload_n 0, 1) := by decide +kernel
theorem dX10_takePlace_5 : decode cX10_takePlace 5 = .ok (.getfield 184, 3) := by decide +kernel
theorem dX10_takePlace_8 : decode cX10_takePlace 8 = .ok (.istore_n 1, 1) := by decide +kernel
theorem dX10_takePlace_9 : decode cX10_takePlace 9 = .ok (.aload_n 0, 1) := by decide +kernel
theorem dX10_takePlace_10 : decode cX10_takePlace 10 = .ok (.aload_n 0, 1) := by decide +kernel
theorem dX10_takePlace_11 : decode cX10_takePlace 11 = .ok (.bipush 6, 2) := by decide +kernel
theorem dX10_takePlace_13 : decode cX10_takePlace 13 = .ok (.bipush 111, 2) := by decide +kernel
theorem dX10_takePlace_15 : decode cX10_takePlace 15 = .ok (.bipush 102, 2) := by decide +kernel
theorem dX10_takePlace_17 : decode cX10_takePlace 17 = .ok (.bipush 102, 2) := by decide +kernel
theorem dX10_takePlace_19 : decode cX10_takePlace 19 = .ok (.bipush 105, 2) := by decide +kernel
theorem dX10_takePlace_21 : decode cX10_takePlace 21 = .ok (.bipush 99, 2) := by decide +kernel
theorem dX10_takePlace_23 : decode cX10_takePlace 23 = .ok (.bipush 101, 2) := by decide +kernel
theorem dX10_takePlace_25 : decode cX10_takePlace 25 = .ok (.invokevirtual 208, 3) := by decide +kernel
theorem dX10_takePlace_28 : decode cX10_takePlace 28 = .ok (.iconst 1, 1) := by decide +kernel
theorem dX10_takePlace_29 : decode cX10_takePlace 29 = .ok (.iload_n 1, 1) := by decide +kernel
theorem dX10_takePlace_30 : decode cX10_takePlace 30 = .ok (.invokevirtual 194, 3) := by decide +kernel
theorem dX10_takePlace_33 : decode cX10_takePlace 33 = .ok (.ifCond .eq 174, 3) := by decide +kernel
theorem dX10_takePlace_36 : decode cX10_takePlace 36 = .ok (.aload_n 0, 1) := by decide +kernel
theorem dX10_takePlace_37 : decode cX10_takePlace 37 = .ok (.aload_n 0, 1) := by decide +kernel
theorem dX10_takePlace_38 : decode cX10_takePlace 38 = .ok (.getfield 205, 3) := by decide +kernel
theorem dX10_takePlace_41 : decode cX10_takePlace 41 = .ok (.iconst 4, 1) := by decide +kernel
theorem dX10_takePlace_42 : decode cX10_takePlace 42 = .ok (.if_icmp .ge 7, 3) := by decide +kernel
theorem dX10_takePlace_45 : decode cX10_takePlace 45 = .ok (.iconst 1, 1) := by decide +kernel
theorem dX10_takePlace_46 : decode cX10_takePlace 46 = .ok (.goto 4, 3) := by decide +kernel
theorem dX10_takePlace_49 : decode cX10_takePlace 49 = .ok (.iconst 0, 1) := by decide +kernel
theorem dX10_takePlace_50 : decode cX10_takePlace 50 = .ok (.iconst 4, 1) := by decide +kernel
theorem dX10_takePlace_51 : decode cX10_takePlace 51 = .ok (.iload_n 1, 1) := by decide +kernel
theorem dX10_takePlace_52 : decode cX10_takePlace 52 = .ok (.invokevirtual 194, 3) := by decide +kernel
theorem dX10_takePlace_55 : decode cX10_takePlace 55 = .ok (.ifCond .eq 152, 3) := by decide +kernel
theorem dX10_takePlace_58 : decode cX10_takePlace 58 = .ok (.aload_n 0, 1) := by decide +kernel
theorem dX10_takePlace_59 : decode cX10_takePlace 59 = .ok (.getfield 71, 3) := by decide +kernel
theorem dX10_takePlace_62 : decode cX10_takePlace 62 = .ok (.aload_n 0, 1) := by decide +kernel
theorem dX10_takePlace_63 : decode cX10_takePlace 63 = .ok (.getfield 205, 3) := by decide +kernel
theorem dX10_takePlace_66 : decode cX10_takePlace 66 = .ok (.aload_n 0, 1) := by decide +kernel
theorem dX10_takePlace_67 : decode cX10_takePlace 67 = .ok (.iconst 0, 1) := by decide +kernel
theorem dX10_takePlace_68 : decode cX10_takePlace 68 = .ok (.iconst 3, 1) := by decide +kernel
theorem dX10_takePlace_69 : decode cX10_takePlace 69 = .ok (.invokevirtual 212, 3) := by decide +kernel
theorem dX10_takePlace_72 : decode cX10_takePlace 72 = .ok (.iastore, 1) := by decide +kernel
theorem dX10_takePlace_73 : decode cX10_takePlace 73 = .ok (.aload_n 0, 1) := by decide +kernel
theorem dX10_takePlace_74 : decode cX10_takePlace 74 = .ok (.getfield 74, 3) := by decide +kernel
theorem dX10_takePlace_77 : decode cX10_takePlace 77 = .ok (.aload_n 0, 1) := by decide +kernel
theorem dX10_takePlace_78 : decode cX10_takePlace 78 = .ok (.getfield 205, 3) := by decide +kernel
theorem dX10_takePlace_81 : decode cX10_takePlace 81 = .ok (.iconst (-1), 1) := by decide +kernel
theorem dX10_takePlace_82 : decode cX10_takePlace 82 = .ok (.iastore, 1) := by decide +kernel
theorem dX10_takePlace_83 : decode cX10_takePlace 83 = .ok (.aload_n 0, 1) := by decide +kernel
theorem dX10_takePlace_84 : decode cX10_takePlace 84 = .ok (.getfield 77, 3) := by decide +kernel
theorem dX10_takePlace_87 : decode cX10_takePlace 87 = .ok (.aload_n 0, 1) := by decide +kernel
theorem dX10_takePlace_88 : decode cX10_takePlace 88 = .ok (.getfield 205, 3) := by decide +kernel
theorem dX10_takePlace_91 : decode cX10_takePlace 91 = .ok (.iconst 0, 1) := by decide +kernel
theorem dX10_takePlace_92 : decode cX10_takePlace 92 = .ok (.iastore, 1) := by decide +kernel
theorem dX10_takePlace_93 : decode cX10_takePlace 93 = .ok (.aload_n 0, 1) := by decide +kernel
theorem dX10_takePlace_94 : decode cX10_takePlace 94 = .ok (.getfield 178, 3) := by decide +kernel
theorem dX10_takePlace_97 : decode cX10_takePlace 97 = .ok (.ifCond .ne 89, 3) := by decide +kernel
theorem dX10_takePlace_100 : decode cX10_takePlace 100 = .ok (.aload_n 0, 1) := by decide +kernel
theorem dX10_takePlace_101 : decode cX10_takePlace 101 = .ok (.invokevirtual 181, 3) := by decide +kernel
theorem dX10_takePlace_104 : decode cX10_takePlace 104 = .ok (.bipush 91, 2) := by decide +kernel
theorem dX10_takePlace_106 : decode cX10_takePlace 106 = .ok (.if_icmp .ne 80, 3) := by decide +kernel
theorem dX10_takePlace_109 : decode cX10_takePlace 109 = .ok (.aload_n 0, 1) := by decide +kernel
theorem dX10_takePlace_110 : decode cX10_takePlace 110 = .ok (.aload_n 0, 1) := by decide +kernel
theorem dX10_takePlace_111 : decode cX10_takePlace 111 = .ok (.getfield 162, 3) := by decide +kernel
theorem dX10_takePlace_114 : decode cX10_takePlace 114 = .ok (.aload_n 0, 1) := by decide +kernel
theorem dX10_takePlace_115 : decode cX10_takePlace 115 = .ok (.getfield 215, 3) := by decide +kernel
theorem dX10_takePlace_118 : decode cX10_takePlace 118 = .ok (.iadd, 1) := by decide +kernel
theorem dX10_takePlace_119 : decode cX10_takePlace 119 = .ok (.bipush 10, 2) := by decide +kernel
theorem dX10_takePlace_121 : decode cX10_takePlace 121 = .ok (.if_icmp .ge 7, 3) := by decide +kernel
theorem dX10_takePlace_124 : decode cX10_takePlace 124 = .ok (.iconst 1, 1) := by decide +kernel
theorem dX10_takePlace_125 : decode cX10_takePlace 125 = .ok (.goto 4, 3) := by decide +kernel
theorem dX10_takePlace_128 : decode cX10_takePlace 128 = .ok (.iconst 0, 1) := by decide +kernel
theorem dX10_takePlace_129 : decode cX10_takePlace 129 = .ok (.iconst 5, 1) := by decide +kernel
theorem dX10_takePlace_130 : decode cX10_takePlace 130 = .ok (.aload_n 0, 1) := by decide +kernel
theorem dX10_takePlace_131 : decode cX10_takePlace 131 = .ok (.getfield 175, 3) := by decide +kernel
theorem dX10_takePlace_134 : decode cX10_takePlace 134 = .ok (.invokevirtual 194, 3) := by decide +kernel
theorem dX10_takePlace_137 : decode cX10_takePlace 137 = .ok (.ifCond .eq 60, 3) := by decide +kernel
theorem dX10_takePlace_140 : decode cX10_takePlace 140 = .ok (.aload_n 0, 1) := by decide +kernel
theorem dX10_takePlace_141 : decode cX10_takePlace 141 = .ok (.dup, 1) := by decide +kernel
theorem dX10_takePlace_142 : decode cX10_takePlace 142 = .ok (.getfield 175, 3) := by decide +kernel
theorem dX10_takePlace_145 : decode cX10_takePlace 145 = .ok (.iconst 1, 1) := by decide +kernel
theorem dX10_takePlace_146 : decode cX10_takePlace 146 = .ok (.iadd, 1) := by decide +kernel
theorem dX10_takePlace_147 : decode cX10_takePlace 147 = .ok (.putfield 175, 3) := by decide +kernel
theorem dX10_takePlace_150 : decode cX10_takePlace 150 = .ok (.aload_n 0, 1) := by decide +kernel
theorem dX10_takePlace_151 : decode cX10_takePlace 151 = .ok (.getfield 77, 3) := by decide +kernel
theorem dX10_takePlace_154 : decode cX10_takePlace 154 = .ok (.aload_n 0, 1) := by decide +kernel
theorem dX10_takePlace_155 : decode cX10_takePlace 155 = .ok (.getfield 205, 3) := by decide +kernel
theorem dX10_takePlace_158 : decode cX10_takePlace 158 = .ok (.aload_n 0, 1) := by decide +kernel
theorem dX10_takePlace_159 : decode cX10_takePlace 159 = .ok (.iconst 1, 1) := by decide +kernel
theorem dX10_takePlace_160 : decode cX10_takePlace 160 = .ok (.sipush 200, 3) := by decide +kernel
theorem dX10_takePlace_163 : decode cX10_takePlace 163 = .ok (.invokevirtual 212, 3) := by decide +kernel
theorem dX10_takePlace_166 : decode cX10_takePlace 166 = .ok (.iastore, 1) := by decide +kernel
theorem dX10_takePlace_167 : decode cX10_takePlace 167 = .ok (.aload_n 0, 1) := by decide +kernel
theorem dX10_takePlace_168 : decode cX10_takePlace 168 = .ok (.bipush 93, 2) := by decide +kernel
theorem dX10_takePlace_170 : decode cX10_takePlace 170 = .ok (.invokevirtual 218, 3) := by decide +kernel
theorem dX10_takePlace_173 : decode cX10_takePlace 173 = .ok (.aload_n 0, 1) := by decide +kernel
theorem dX10_takePlace_174 : decode cX10_takePlace 174 = .ok (.dup, 1) := by decide +kernel
theorem dX10_takePlace_175 : decode cX10_takePlace 175 = .ok (.getfield 215, 3) := by decide +kernel
theorem dX10_takePlace_178 : decode cX10_takePlace 178 = .ok (.iconst 1, 1) := by decide +kernel
theorem dX10_takePlace_179 : decode cX10_takePlace 179 = .ok (.iadd, 1) := by decide +kernel
theorem dX10_takePlace_180 : decode cX10_takePlace 180 = .ok (.putfield 215, 3) := by decide +kernel
theorem dX10_takePlace_183 : decode cX10_takePlace 183 = .ok (.goto 14, 3) := by decide +kernel
theorem dX10_takePlace_186 : decode cX10_takePlace 186 = .ok (.aload_n 0, 1) := by decide +kernel
theorem dX10_takePlace_187 : decode cX10_takePlace 187 = .ok (.getfield 178, 3) := by decide +kernel
theorem dX10_takePlace_190 : decode cX10_takePlace 190 = .ok (.ifCond .ne 7, 3) := by decide +kernel
theorem dX10_takePlace_193 : decode cX10_takePlace 193 = .ok (.aload_n 0, 1) := by decide +kernel
theorem dX10_takePlace_194 : decode cX10_takePlace 194 = .ok (.invokevirtual 222, 3) := by decide +kernel
theorem dX10_takePlace_197 : decode cX10_takePlace 197 = .ok (.aload_n 0, 1) := by decide +kernel
theorem dX10_takePlace_198 : decode cX10_takePlace 198 = .ok (.dup, 1) := by decide +kernel
theorem dX10_takePlace_199 : decode cX10_takePlace 199 = .ok (.getfield 205, 3) := by decide +kernel
theorem dX10_takePlace_202 : decode cX10_takePlace 202 = .ok (.iconst 1, 1) := by decide +kernel
theorem dX10_takePlace_203 : decode cX10_takePlace 203 = .ok (.iadd, 1) := by decide +kernel
theorem dX10_takePlace_204 : decode cX10_takePlace 204 = .ok (.putfield 205, 3) := by decide +kernel
theorem dX10_takePlace_207 : decode cX10_takePlace 207 = .ok (.return_, 1) := by decide +kernel
def BX10_takePlace_50 (I50 : Int32 → Int32 → XT → YT → Prop) (I186 : XT → YT → Prop) (I129 : Int32 → XT → YT → Prop) (Q : XT → YT → Prop) (a1 : Int32) (t0 : Int32) (X : XT) (Y : YT) : Prop :=
  PX10_want t0 4 a1 X Y (fun r1 X2 Y3 => ((r1 = 0 → Q X2 Y3) ∧ (¬ r1 = 0 → PX10_takeNumber 0 3 X2 Y3 (fun r6 X7 Y8 => vp_in (X2 48 32) 4 ∧ vp_in ((sX X7 68 (X2 48 32).toNatClampNeg r6) 48 32) 4 ∧ ∀ X10 : XT, X10 = sX (sX X7 68 (X2 48 32).toNatClampNeg r6) 69 ((sX X7 68 (X2 48 32).toNatClampNeg r6) 48 32).toNatClampNeg (-1) → vp_in (X10 48 32) 4 ∧ ((¬ ((sX X10 70 (X10 48 32).toNatClampNeg 0) 48 30) = 0 → I186 (sX X10 70 (X10 48 32).toNatClampNeg 0) Y8) ∧ (((sX X10 70 (X10 48 32).toNatClampNeg 0) 48 30) = 0 → PX10_here (sX X10 70 (X10 48 32).toNatClampNeg 0) Y8 (fun r13 X14 Y15 => ((¬ r13 = 91 → I186 X14 Y15) ∧ (r13 = 91 → ((10 ≤ ((X14 48 22) + (X14 48 33)) → I129 0 X14 Y15) ∧ (¬ 10 ≤ ((X14 48 22) + (X14 48 33)) → I129 1 X14 Y15)))))))))))
def BX10_takePlace_186 (I50 : Int32 → Int32 → XT → YT → Prop) (I186 : XT → YT → Prop) (I129 : Int32 → XT → YT → Prop) (Q : XT → YT → Prop) (X : XT) (Y : YT) : Prop :=
  ((¬ (X 48 30) = 0 → Q (sX X 48 32 ((X 48 32) + 1)) Y) ∧ ((X 48 30) = 0 → PX10_takeName X Y (fun X3 Y4 => Q (sX X3 48 32 ((X3 48 32) + 1)) Y4)))
def BX10_takePlace_129 (I50 : Int32 → Int32 → XT → YT → Prop) (I186 : XT → YT → Prop) (I129 : Int32 → XT → YT → Prop) (Q : XT → YT → Prop) (t0 : Int32) (X : XT) (Y : YT) : Prop :=
  PX10_want t0 5 (X 48 27) X Y (fun r1 X2 Y3 => ((r1 = 0 → Q (sX X2 48 32 ((X2 48 32) + 1)) Y3) ∧ (¬ r1 = 0 → PX10_takeNumber 1 200 (sX X2 48 27 ((X2 48 27) + 1)) Y3 (fun r6 X7 Y8 => vp_in ((sX X2 48 27 ((X2 48 27) + 1)) 48 32) 4 ∧ ∀ X10 : XT, X10 = sX X7 70 ((sX X2 48 27 ((X2 48 27) + 1)) 48 32).toNatClampNeg r6 → PX10_takeSign 93 X10 Y8 (fun X13 Y14 => ∀ X16 : XT, X16 = sX (sX X13 48 33 ((X13 48 33) + 1)) 48 32 (((sX X13 48 33 ((X13 48 33) + 1)) 48 32) + 1) → Q X16 Y14)))))
def BX10_takePlace_s (I50 : Int32 → Int32 → XT → YT → Prop) (I186 : XT → YT → Prop) (I129 : Int32 → XT → YT → Prop) (Q : XT → YT → Prop) (X : XT) (Y : YT) : Prop :=
  PX10_takeWord X Y (fun X2 Y3 => ∀ w5 : Int32, w5 = (X2 48 28) → PX10_isWord 6 111 102 102 105 99 101 X2 Y3 (fun r7 X8 Y9 => PX10_want r7 1 w5 X8 Y9 (fun r11 X12 Y13 => ((r11 = 0 → Q X12 Y13) ∧ (¬ r11 = 0 → ((4 ≤ (X12 48 32) → I50 w5 0 X12 Y13) ∧ (¬ 4 ≤ (X12 48 32) → I50 w5 1 X12 Y13)))))))
def PX10_takePlace (X : XT) (Y : YT) (Q : XT → YT → Prop) : Prop := ∀ (I50 : Int32 → Int32 → XT → YT → Prop) (I186 : XT → YT → Prop) (I129 : Int32 → XT → YT → Prop), (∀ (a1 : Int32) (t0 : Int32) (X : XT) (Y : YT), BX10_takePlace_50 I50 I186 I129 Q a1 t0 X Y → I50 a1 t0 X Y) → (∀ (X : XT) (Y : YT), BX10_takePlace_186 I50 I186 I129 Q X Y → I186 X Y) → (∀ (t0 : Int32) (X : XT) (Y : YT), BX10_takePlace_129 I50 I186 I129 Q t0 X Y → I129 t0 X Y) → BX10_takePlace_s I50 I186 I129 Q X Y
set_option maxHeartbeats 4000000 in
set_option maxRecDepth 100000 in
theorem kX10_takePlace_50 {Γ : Cxt} {Q : XT → YT → Prop} (O : Ok Γ RX10 cX10_takePlace 2 { frames := 3, cells := 0, slots := 0, locals := 69 }) (r : Ret Γ none (qV Q)) {I50 : Int32 → Int32 → XT → YT → Prop} {I186 : XT → YT → Prop} {I129 : Int32 → XT → YT → Prop} (e50 : ∀ (a1 : Int32) (t0 : Int32) (X : XT) (Y : YT), I50 a1 t0 X Y → V Γ 50 [(0, .ref 48), (1, .int a1)] [.int t0, .ref 48] X Y) (e186 : ∀ (X : XT) (Y : YT), I186 X Y → V Γ 186 [(0, .ref 48)] [] X Y) (e129 : ∀ (t0 : Int32) (X : XT) (Y : YT), I129 t0 X Y → V Γ 129 [(0, .ref 48)] [.int t0, .ref 48] X Y) {a1 : Int32} {t0 : Int32} {X : XT} {Y : YT} (h : BX10_takePlace_50 I50 I186 I129 Q a1 t0 X Y) : V Γ 50 [(0, .ref 48), (1, .int a1)] [.int t0, .ref 48] X Y := by
  refine v_iconst O dX10_takePlace_50 kc_4 ?_
  refine v_iload_n O dX10_takePlace_51 rfl 1 rfl ?_
  refine v_callV (rm' := { frames := 0, cells := 0, slots := 0, locals := 0 }) (As := [.int t0, .int 4, .int a1]) (st := []) O dX10_takePlace_52 ci_X10_want ml_X10_194 mi_X10_want sh_48 rfl ⟨rfl, rfl, (by decide), (by decide)⟩ rfl (Nat.le_of_ble_eq_true rfl) rfl (mX10_want h) (k_I (fun r1 X2 Y3 h4 => ?_))
  refine v_if_eq (tgt := 207) O dX10_takePlace_55 (by decide) (fun g5 => ?_) (fun g5 => ?_)
  · exact v_vret O r dX10_takePlace_207 ⟨rfl, (h4.1 g5)⟩
  · refine v_aload_n O dX10_takePlace_58 rfl 0 rfl ?_
    refine v_get O dX10_takePlace_59 fo_X10_71 sh_48 rfl rfl ?_
    refine v_aload_n O dX10_takePlace_62 rfl 0 rfl ?_
    refine v_get O dX10_takePlace_63 fo_X10_205 sh_48 rfl rfl ?_
    refine v_aload_n O dX10_takePlace_66 rfl 0 rfl ?_
    refine v_iconst O dX10_takePlace_67 kc_0 ?_
    refine v_iconst O dX10_takePlace_68 kc_3 ?_
    refine v_callV (rm' := { frames := 1, cells := 0, slots := 0, locals := 25 }) (As := [.int 0, .int 3]) (st := [.int (X2 48 32), .ref 68]) O dX10_takePlace_69 ci_X10_takeNumber ml_X10_212 mi_X10_takeNumber sh_48 rfl ⟨rfl, rfl, (by decide), (by decide)⟩ rfl (Nat.le_of_ble_eq_true rfl) rfl (mX10_takeNumber (h4.2 g5)) (k_I (fun r6 X7 Y8 h9 => ?_))
    refine v_iast O dX10_takePlace_72 sh_68 h9.1 ?_
    refine v_aload_n O dX10_takePlace_73 rfl 0 rfl ?_
    refine v_get O dX10_takePlace_74 fo_X10_74 sh_48 rfl rfl ?_
    refine v_aload_n O dX10_takePlace_77 rfl 0 rfl ?_
    refine v_get O dX10_takePlace_78 fo_X10_205 sh_48 rfl rfl ?_
    refine v_iconst O dX10_takePlace_81 kc_m1 ?_
    refine v_iast O dX10_takePlace_82 sh_69 h9.2.1 ?_
    refine v_nmX (fun X10 hX11 => ?_)
    refine v_aload_n O dX10_takePlace_83 rfl 0 rfl ?_
    refine v_get O dX10_takePlace_84 fo_X10_77 sh_48 rfl rfl ?_
    refine v_aload_n O dX10_takePlace_87 rfl 0 rfl ?_
    refine v_get O dX10_takePlace_88 fo_X10_205 sh_48 rfl rfl ?_
    refine v_iconst O dX10_takePlace_91 kc_0 ?_
    refine v_iast O dX10_takePlace_92 sh_70 (h9.2.2 X10 hX11).1 ?_
    refine v_aload_n O dX10_takePlace_93 rfl 0 rfl ?_
    refine v_get O dX10_takePlace_94 fo_X10_178 sh_48 rfl rfl ?_
    refine v_if_ne (tgt := 186) O dX10_takePlace_97 (by decide) (fun g12 => ?_) (fun g12 => ?_)
    · exact v_loc [0] rfl (e186 (sX X10 70 (X10 48 32).toNatClampNeg 0) Y8 ((h9.2.2 X10 hX11).2.1 g12))
    · refine v_aload_n O dX10_takePlace_100 rfl 0 rfl ?_
      refine v_callV (rm' := { frames := 0, cells := 0, slots := 0, locals := 0 }) (As := []) (st := []) O dX10_takePlace_101 ci_X10_here ml_X10_181 mi_X10_here sh_48 rfl ⟨rfl, rfl, (by decide), (by decide)⟩ rfl (Nat.le_of_ble_eq_true rfl) rfl (mX10_here ((h9.2.2 X10 hX11).2.2 g12)) (k_I (fun r13 X14 Y15 h16 => ?_))
      refine v_bipush O dX10_takePlace_104 kb_91 ?_
      refine v_icmp_ne (tgt := 186) O dX10_takePlace_106 (by decide) (fun g17 => ?_) (fun g17 => ?_)
      · exact v_loc [0] rfl (e186 X14 Y15 (h16.1 g17))
      · refine v_aload_n O dX10_takePlace_109 rfl 0 rfl ?_
        refine v_aload_n O dX10_takePlace_110 rfl 0 rfl ?_
        refine v_get O dX10_takePlace_111 fo_X10_162 sh_48 rfl rfl ?_
        refine v_aload_n O dX10_takePlace_114 rfl 0 rfl ?_
        refine v_get O dX10_takePlace_115 fo_X10_215 sh_48 rfl rfl ?_
        refine v_iadd O dX10_takePlace_118 ?_
        refine v_bipush O dX10_takePlace_119 kb_10 ?_
        refine v_icmp_ge (tgt := 128) O dX10_takePlace_121 (by decide) (fun g18 => ?_) (fun g18 => ?_)
        · refine v_iconst O dX10_takePlace_128 kc_0 ?_
          exact v_loc [0] rfl (e129 0 X14 Y15 ((h16.2 g17).1 g18))
        · refine v_iconst O dX10_takePlace_124 kc_1 ?_
          refine v_goto O dX10_takePlace_125 (tgt := 129) (by decide) ?_
          exact v_loc [0] rfl (e129 1 X14 Y15 ((h16.2 g17).2 g18))
set_option maxHeartbeats 4000000 in
set_option maxRecDepth 100000 in
theorem kX10_takePlace_186 {Γ : Cxt} {Q : XT → YT → Prop} (O : Ok Γ RX10 cX10_takePlace 2 { frames := 3, cells := 0, slots := 0, locals := 69 }) (r : Ret Γ none (qV Q)) {I50 : Int32 → Int32 → XT → YT → Prop} {I186 : XT → YT → Prop} {I129 : Int32 → XT → YT → Prop} (e50 : ∀ (a1 : Int32) (t0 : Int32) (X : XT) (Y : YT), I50 a1 t0 X Y → V Γ 50 [(0, .ref 48), (1, .int a1)] [.int t0, .ref 48] X Y) (e186 : ∀ (X : XT) (Y : YT), I186 X Y → V Γ 186 [(0, .ref 48)] [] X Y) (e129 : ∀ (t0 : Int32) (X : XT) (Y : YT), I129 t0 X Y → V Γ 129 [(0, .ref 48)] [.int t0, .ref 48] X Y) {X : XT} {Y : YT} (h : BX10_takePlace_186 I50 I186 I129 Q X Y) : V Γ 186 [(0, .ref 48)] [] X Y := by
  refine v_aload_n O dX10_takePlace_186 rfl 0 rfl ?_
  refine v_get O dX10_takePlace_187 fo_X10_178 sh_48 rfl rfl ?_
  refine v_if_ne (tgt := 197) O dX10_takePlace_190 (by decide) (fun g1 => ?_) (fun g1 => ?_)
  · refine v_aload_n O dX10_takePlace_197 rfl 0 rfl ?_
    refine v_dup O dX10_takePlace_198 rfl ?_
    refine v_get O dX10_takePlace_199 fo_X10_205 sh_48 rfl rfl ?_
    refine v_iconst O dX10_takePlace_202 kc_1 ?_
    refine v_iadd O dX10_takePlace_203 ?_
    refine v_putI O dX10_takePlace_204 fo_X10_205 fp_10_32 sh_48 rfl rfl rfl ?_
    exact v_vret O r dX10_takePlace_207 ⟨rfl, (h.1 g1)⟩
  · refine v_aload_n O dX10_takePlace_193 rfl 0 rfl ?_
    refine v_callV (rm' := { frames := 2, cells := 0, slots := 0, locals := 46 }) (As := []) (st := []) O dX10_takePlace_194 ci_X10_takeName ml_X10_222 mi_X10_takeName sh_48 rfl ⟨rfl, rfl, (by decide), (by decide)⟩ rfl (Nat.le_of_ble_eq_true rfl) rfl (mX10_takeName (h.2 g1)) (k_V (fun X3 Y4 h5 => ?_))
    refine v_aload_n O dX10_takePlace_197 rfl 0 rfl ?_
    refine v_dup O dX10_takePlace_198 rfl ?_
    refine v_get O dX10_takePlace_199 fo_X10_205 sh_48 rfl rfl ?_
    refine v_iconst O dX10_takePlace_202 kc_1 ?_
    refine v_iadd O dX10_takePlace_203 ?_
    refine v_putI O dX10_takePlace_204 fo_X10_205 fp_10_32 sh_48 rfl rfl rfl ?_
    exact v_vret O r dX10_takePlace_207 ⟨rfl, h5⟩
set_option maxHeartbeats 4000000 in
set_option maxRecDepth 100000 in
theorem kX10_takePlace_129 {Γ : Cxt} {Q : XT → YT → Prop} (O : Ok Γ RX10 cX10_takePlace 2 { frames := 3, cells := 0, slots := 0, locals := 69 }) (r : Ret Γ none (qV Q)) {I50 : Int32 → Int32 → XT → YT → Prop} {I186 : XT → YT → Prop} {I129 : Int32 → XT → YT → Prop} (e50 : ∀ (a1 : Int32) (t0 : Int32) (X : XT) (Y : YT), I50 a1 t0 X Y → V Γ 50 [(0, .ref 48), (1, .int a1)] [.int t0, .ref 48] X Y) (e186 : ∀ (X : XT) (Y : YT), I186 X Y → V Γ 186 [(0, .ref 48)] [] X Y) (e129 : ∀ (t0 : Int32) (X : XT) (Y : YT), I129 t0 X Y → V Γ 129 [(0, .ref 48)] [.int t0, .ref 48] X Y) {t0 : Int32} {X : XT} {Y : YT} (h : BX10_takePlace_129 I50 I186 I129 Q t0 X Y) : V Γ 129 [(0, .ref 48)] [.int t0, .ref 48] X Y := by
  refine v_iconst O dX10_takePlace_129 kc_5 ?_
  refine v_aload_n O dX10_takePlace_130 rfl 0 rfl ?_
  refine v_get O dX10_takePlace_131 fo_X10_175 sh_48 rfl rfl ?_
  refine v_callV (rm' := { frames := 0, cells := 0, slots := 0, locals := 0 }) (As := [.int t0, .int 5, .int (X 48 27)]) (st := []) O dX10_takePlace_134 ci_X10_want ml_X10_194 mi_X10_want sh_48 rfl ⟨rfl, rfl, (by decide), (by decide)⟩ rfl (Nat.le_of_ble_eq_true rfl) rfl (mX10_want h) (k_I (fun r1 X2 Y3 h4 => ?_))
  refine v_if_eq (tgt := 197) O dX10_takePlace_137 (by decide) (fun g5 => ?_) (fun g5 => ?_)
  · refine v_aload_n O dX10_takePlace_197 rfl 0 rfl ?_
    refine v_dup O dX10_takePlace_198 rfl ?_
    refine v_get O dX10_takePlace_199 fo_X10_205 sh_48 rfl rfl ?_
    refine v_iconst O dX10_takePlace_202 kc_1 ?_
    refine v_iadd O dX10_takePlace_203 ?_
    refine v_putI O dX10_takePlace_204 fo_X10_205 fp_10_32 sh_48 rfl rfl rfl ?_
    exact v_vret O r dX10_takePlace_207 ⟨rfl, (h4.1 g5)⟩
  · refine v_aload_n O dX10_takePlace_140 rfl 0 rfl ?_
    refine v_dup O dX10_takePlace_141 rfl ?_
    refine v_get O dX10_takePlace_142 fo_X10_175 sh_48 rfl rfl ?_
    refine v_iconst O dX10_takePlace_145 kc_1 ?_
    refine v_iadd O dX10_takePlace_146 ?_
    refine v_putI O dX10_takePlace_147 fo_X10_175 fp_10_27 sh_48 rfl rfl rfl ?_
    refine v_aload_n O dX10_takePlace_150 rfl 0 rfl ?_
    refine v_get O dX10_takePlace_151 fo_X10_77 sh_48 rfl rfl ?_
    refine v_aload_n O dX10_takePlace_154 rfl 0 rfl ?_
    refine v_get O dX10_takePlace_155 fo_X10_205 sh_48 rfl rfl ?_
    refine v_aload_n O dX10_takePlace_158 rfl 0 rfl ?_
    refine v_iconst O dX10_takePlace_159 kc_1 ?_
    refine v_sipush O dX10_takePlace_160 ks_200 ?_
    refine v_callV (rm' := { frames := 1, cells := 0, slots := 0, locals := 25 }) (As := [.int 1, .int 200]) (st := [.int ((sX X2 48 27 ((X2 48 27) + 1)) 48 32), .ref 70]) O dX10_takePlace_163 ci_X10_takeNumber ml_X10_212 mi_X10_takeNumber sh_48 rfl ⟨rfl, rfl, (by decide), (by decide)⟩ rfl (Nat.le_of_ble_eq_true rfl) rfl (mX10_takeNumber (h4.2 g5)) (k_I (fun r6 X7 Y8 h9 => ?_))
    refine v_iast O dX10_takePlace_166 sh_70 h9.1 ?_
    refine v_nmX (fun X10 hX11 => ?_)
    refine v_aload_n O dX10_takePlace_167 rfl 0 rfl ?_
    refine v_bipush O dX10_takePlace_168 kb_93 ?_
    refine v_callV (rm' := { frames := 1, cells := 0, slots := 0, locals := 23 }) (As := [.int 93]) (st := []) O dX10_takePlace_170 ci_X10_takeSign ml_X10_218 mi_X10_takeSign sh_48 rfl ⟨rfl, rfl, (by decide), (by decide)⟩ rfl (Nat.le_of_ble_eq_true rfl) rfl (mX10_takeSign (h9.2 X10 hX11)) (k_V (fun X13 Y14 h15 => ?_))
    refine v_aload_n O dX10_takePlace_173 rfl 0 rfl ?_
    refine v_dup O dX10_takePlace_174 rfl ?_
    refine v_get O dX10_takePlace_175 fo_X10_215 sh_48 rfl rfl ?_
    refine v_iconst O dX10_takePlace_178 kc_1 ?_
    refine v_iadd O dX10_takePlace_179 ?_
    refine v_putI O dX10_takePlace_180 fo_X10_215 fp_10_33 sh_48 rfl rfl rfl ?_
    refine v_goto O dX10_takePlace_183 (tgt := 197) (by decide) ?_
    refine v_aload_n O dX10_takePlace_197 rfl 0 rfl ?_
    refine v_dup O dX10_takePlace_198 rfl ?_
    refine v_get O dX10_takePlace_199 fo_X10_205 sh_48 rfl rfl ?_
    refine v_iconst O dX10_takePlace_202 kc_1 ?_
    refine v_iadd O dX10_takePlace_203 ?_
    refine v_putI O dX10_takePlace_204 fo_X10_205 fp_10_32 sh_48 rfl rfl rfl ?_
    refine v_nmX (fun X16 hX17 => ?_)
    exact v_vret O r dX10_takePlace_207 ⟨rfl, (h15 X16 hX17)⟩
set_option maxHeartbeats 4000000 in
set_option maxRecDepth 100000 in
theorem kX10_takePlace_s {Γ : Cxt} {Q : XT → YT → Prop} (O : Ok Γ RX10 cX10_takePlace 2 { frames := 3, cells := 0, slots := 0, locals := 69 }) (r : Ret Γ none (qV Q)) {I50 : Int32 → Int32 → XT → YT → Prop} {I186 : XT → YT → Prop} {I129 : Int32 → XT → YT → Prop} (e50 : ∀ (a1 : Int32) (t0 : Int32) (X : XT) (Y : YT), I50 a1 t0 X Y → V Γ 50 [(0, .ref 48), (1, .int a1)] [.int t0, .ref 48] X Y) (e186 : ∀ (X : XT) (Y : YT), I186 X Y → V Γ 186 [(0, .ref 48)] [] X Y) (e129 : ∀ (t0 : Int32) (X : XT) (Y : YT), I129 t0 X Y → V Γ 129 [(0, .ref 48)] [.int t0, .ref 48] X Y) {X : XT} {Y : YT} (h : BX10_takePlace_s I50 I186 I129 Q X Y) : V Γ 0 [(0, .ref 48)] [] X Y := by
  refine v_aload_n O dX10_takePlace_0 rfl 0 rfl ?_
  refine v_callV (rm' := { frames := 1, cells := 0, slots := 0, locals := 25 }) (As := []) (st := []) O dX10_takePlace_1 ci_X10_takeWord ml_X10_202 mi_X10_takeWord sh_48 rfl ⟨rfl, rfl, (by decide), (by decide)⟩ rfl (Nat.le_of_ble_eq_true rfl) rfl (mX10_takeWord h) (k_V (fun X2 Y3 h4 => ?_))
  refine v_aload_n O dX10_takePlace_4 rfl 0 rfl ?_
  refine v_get O dX10_takePlace_5 fo_X10_184 sh_48 rfl rfl ?_
  refine v_topi (fun w5 hw6 => ?_)
  refine v_istore_n (lv' := [(1, .int w5), (0, .ref 48)]) O dX10_takePlace_8 rfl (by decide) rfl ?_
  refine v_aload_n O dX10_takePlace_9 rfl 1 rfl ?_
  refine v_aload_n O dX10_takePlace_10 rfl 1 rfl ?_
  refine v_bipush O dX10_takePlace_11 kb_6 ?_
  refine v_bipush O dX10_takePlace_13 kb_111 ?_
  refine v_bipush O dX10_takePlace_15 kb_102 ?_
  refine v_bipush O dX10_takePlace_17 kb_102 ?_
  refine v_bipush O dX10_takePlace_19 kb_105 ?_
  refine v_bipush O dX10_takePlace_21 kb_99 ?_
  refine v_bipush O dX10_takePlace_23 kb_101 ?_
  refine v_callV (rm' := { frames := 0, cells := 0, slots := 0, locals := 0 }) (As := [.int 6, .int 111, .int 102, .int 102, .int 105, .int 99, .int 101]) (st := [.ref 48]) O dX10_takePlace_25 ci_X10_isWord ml_X10_208 mi_X10_isWord sh_48 rfl ⟨rfl, rfl, (by decide), (by decide)⟩ rfl (Nat.le_of_ble_eq_true rfl) rfl (mX10_isWord (h4 w5 hw6)) (k_I (fun r7 X8 Y9 h10 => ?_))
  refine v_iconst O dX10_takePlace_28 kc_1 ?_
  refine v_iload_n O dX10_takePlace_29 rfl 0 rfl ?_
  refine v_callV (rm' := { frames := 0, cells := 0, slots := 0, locals := 0 }) (As := [.int r7, .int 1, .int w5]) (st := []) O dX10_takePlace_30 ci_X10_want ml_X10_194 mi_X10_want sh_48 rfl ⟨rfl, rfl, (by decide), (by decide)⟩ rfl (Nat.le_of_ble_eq_true rfl) rfl (mX10_want h10) (k_I (fun r11 X12 Y13 h14 => ?_))
  refine v_if_eq (tgt := 207) O dX10_takePlace_33 (by decide) (fun g15 => ?_) (fun g15 => ?_)
  · exact v_vret O r dX10_takePlace_207 ⟨rfl, (h14.1 g15)⟩
  · refine v_aload_n O dX10_takePlace_36 rfl 1 rfl ?_
    refine v_aload_n O dX10_takePlace_37 rfl 1 rfl ?_
    refine v_get O dX10_takePlace_38 fo_X10_205 sh_48 rfl rfl ?_
    refine v_iconst O dX10_takePlace_41 kc_4 ?_
    refine v_icmp_ge (tgt := 49) O dX10_takePlace_42 (by decide) (fun g16 => ?_) (fun g16 => ?_)
    · refine v_iconst O dX10_takePlace_49 kc_0 ?_
      exact v_loc [1, 0] rfl (e50 w5 0 X12 Y13 ((h14.2 g15).1 g16))
    · refine v_iconst O dX10_takePlace_45 kc_1 ?_
      refine v_goto O dX10_takePlace_46 (tgt := 50) (by decide) ?_
      exact v_loc [1, 0] rfl (e50 w5 1 X12 Y13 ((h14.2 g15).2 g16))
set_option maxRecDepth 100000 in
theorem mX10_takePlace {Γ : Cxt} {X : XT} {Y : YT} {Q : XT → YT → Prop} (h : PX10_takePlace X Y Q) : MT Γ yX10_takePlace (.code yX10_takePlace cX10_takePlace 2 none :: wl) { frames := 3, cells := 0, slots := 0, locals := 69 } [.ref 48] X Y (qV Q) :=
  mt_of (by decide) (Nat.le_of_ble_eq_true rfl) (fun Γ _ O r => kX10_takePlace_s O r (fun _ _ _ _ g => g) (fun  _ _ g => g) (fun _ _ _ g => g) (h (fun a1 t0 X Y => V Γ 50 [(0, .ref 48), (1, .int a1)] [.int t0, .ref 48] X Y) (fun X Y => V Γ 186 [(0, .ref 48)] [] X Y) (fun t0 X Y => V Γ 129 [(0, .ref 48)] [.int t0, .ref 48] X Y) (fun _ _ _ _ g => kX10_takePlace_50 O r (fun _ _ _ _ g => g) (fun  _ _ g => g) (fun _ _ _ g => g) g) (fun  _ _ g => kX10_takePlace_186 O r (fun _ _ _ _ g => g) (fun  _ _ g => g) (fun _ _ _ g => g) g) (fun _ _ _ g => kX10_takePlace_129 O r (fun _ _ _ _ g => g) (fun  _ _ g => g) (fun _ _ _ g => g) g)))
theorem dX10_page_0 : decode cX10_page 0 = .ok (.aload_n 0, 1) := by decide +kernel
theorem dX10_page_1 : decode cX10_page 1 = .ok (.getfield 156, 3) := by decide +kernel
theorem dX10_page_4 : decode cX10_page 4 = .ok (.bipush 8, 2) := by decide +kernel
theorem dX10_page_6 : decode cX10_page 6 = .ok (.if_icmp .ne 7, 3) := by decide +kernel
theorem dX10_page_9 : decode cX10_page 9 = .ok (.sipush (-1004), 3) := by decide +kernel
theorem dX10_page_12 : decode cX10_page 12 = .ok (.ireturn, 1) := by decide +kernel
theorem dX10_page_13 : decode cX10_page 13 = .ok (.aload_n 0, 1) := by decide +kernel
theorem dX10_page_14 : decode cX10_page 14 = .ok (.iconst 0, 1) := by decide +kernel
theorem dX10_page_15 : decode cX10_page 15 = .ok (.putfield 175, 3) := by decide +kernel
theorem dX10_page_18 : decode cX10_page 18 = .ok (.aload_n 0, 1) := by decide +kernel
theorem dX10_page_19 : decode cX10_page 19 = .ok (.iconst 0, 1) := by decide +kernel
theorem dX10_page_20 : decode cX10_page 20 = .ok (.putfield 178, 3) := by decide +kernel
theorem dX10_page_23 : decode cX10_page 23 = .ok (.aload_n 0, 1) := by decide +kernel
theorem dX10_page_24 : decode cX10_page 24 = .ok (.iconst (-1), 1) := by decide +kernel
theorem dX10_page_25 : decode cX10_page 25 = .ok (.putfield 67, 3) := by decide +kernel
theorem dX10_page_28 : decode cX10_page 28 = .ok (.aload_n 0, 1) := by decide +kernel
theorem dX10_page_29 : decode cX10_page 29 = .ok (.iconst 0, 1) := by decide +kernel
theorem dX10_page_30 : decode cX10_page 30 = .ok (.putfield 205, 3) := by decide +kernel
theorem dX10_page_33 : decode cX10_page 33 = .ok (.aload_n 0, 1) := by decide +kernel
theorem dX10_page_34 : decode cX10_page 34 = .ok (.iconst 0, 1) := by decide +kernel
theorem dX10_page_35 : decode cX10_page 35 = .ok (.putfield 215, 3) := by decide +kernel
theorem dX10_page_38 : decode cX10_page 38 = .ok (.aload_n 0, 1) := by decide +kernel
theorem dX10_page_39 : decode cX10_page 39 = .ok (.invokevirtual 202, 3) := by decide +kernel
theorem dX10_page_42 : decode cX10_page 42 = .ok (.aload_n 0, 1) := by decide +kernel
theorem dX10_page_43 : decode cX10_page 43 = .ok (.aload_n 0, 1) := by decide +kernel
theorem dX10_page_44 : decode cX10_page 44 = .ok (.iconst 3, 1) := by decide +kernel
theorem dX10_page_45 : decode cX10_page 45 = .ok (.bipush 100, 2) := by decide +kernel
theorem dX10_page_47 : decode cX10_page 47 = .ok (.bipush 97, 2) := by decide +kernel
theorem dX10_page_49 : decode cX10_page 49 = .ok (.bipush 121, 2) := by decide +kernel
theorem dX10_page_51 : decode cX10_page 51 = .ok (.iconst 0, 1) := by decide +kernel
theorem dX10_page_52 : decode cX10_page 52 = .ok (.iconst 0, 1) := by decide +kernel
theorem dX10_page_53 : decode cX10_page 53 = .ok (.iconst 0, 1) := by decide +kernel
theorem dX10_page_54 : decode cX10_page 54 = .ok (.invokevirtual 208, 3) := by decide +kernel
theorem dX10_page_57 : decode cX10_page 57 = .ok (.iconst 1, 1) := by decide +kernel
theorem dX10_page_58 : decode cX10_page 58 = .ok (.aload_n 0, 1) := by decide +kernel
theorem dX10_page_59 : decode cX10_page 59 = .ok (.getfield 184, 3) := by decide +kernel
theorem dX10_page_62 : decode cX10_page 62 = .ok (.invokevirtual 194, 3) := by decide +kernel
theorem dX10_page_65 : decode cX10_page 65 = .ok (.istore_n 1, 1) := by decide +kernel
theorem dX10_page_66 : decode cX10_page 66 = .ok (.aload_n 0, 1) := by decide +kernel
theorem dX10_page_67 : decode cX10_page 67 = .ok (.iconst 0, 1) := by decide +kernel
theorem dX10_page_68 : decode cX10_page 68 = .ok (.bipush 99, 2) := by decide +kernel
theorem dX10_page_70 : decode cX10_page 70 = .ok (.invokevirtual 212, 3) := by decide +kernel
theorem dX10_page_73 : decode cX10_page 73 = .ok (.istore_n 2, 1) := by decide +kernel
theorem dX10_page_74 : decode cX10_page 74 = .ok (.aload_n 0, 1) := by decide +kernel
theorem dX10_page_75 : decode cX10_page 75 = .ok (.getfield 178, 3) := by decide +kernel
theorem dX10_page_78 : decode cX10_page 78 = .ok (.ifCond .ne 33, 3) := by decide +kernel
theorem dX10_page_81 : decode cX10_page 81 = .ok (.aload_n 0, 1) := by decide +kernel
theorem dX10_page_82 : decode cX10_page 82 = .ok (.invokevirtual 202, 3) := by decide +kernel
theorem dX10_page_85 : decode cX10_page 85 = .ok (.aload_n 0, 1) := by decide +kernel
theorem dX10_page_86 : decode cX10_page 86 = .ok (.aload_n 0, 1) := by decide +kernel
theorem dX10_page_87 : decode cX10_page 87 = .ok (.iconst 5, 1) := by decide +kernel
theorem dX10_page_88 : decode cX10_page 88 = .ok (.bipush 102, 2) := by decide +kernel
theorem dX10_page_90 : decode cX10_page 90 = .ok (.bipush 111, 2) := by decide +kernel
theorem dX10_page_92 : decode cX10_page 92 = .ok (.bipush 117, 2) := by decide +kernel
theorem dX10_page_94 : decode cX10_page 94 = .ok (.bipush 110, 2) := by decide +kernel
theorem dX10_page_96 : decode cX10_page 96 = .ok (.bipush 116, 2) := by decide +kernel
theorem dX10_page_98 : decode cX10_page 98 = .ok (.iconst 0, 1) := by decide +kernel
theorem dX10_page_99 : decode cX10_page 99 = .ok (.invokevirtual 208, 3) := by decide +kernel
theorem dX10_page_102 : decode cX10_page 102 = .ok (.iconst 1, 1) := by decide +kernel
theorem dX10_page_103 : decode cX10_page 103 = .ok (.aload_n 0, 1) := by decide +kernel
theorem dX10_page_104 : decode cX10_page 104 = .ok (.getfield 184, 3) := by decide +kernel
theorem dX10_page_107 : decode cX10_page 107 = .ok (.invokevirtual 194, 3) := by decide +kernel
theorem dX10_page_110 : decode cX10_page 110 = .ok (.istore_n 1, 1) := by decide +kernel
theorem dX10_page_111 : decode cX10_page 111 = .ok (.aload_n 0, 1) := by decide +kernel
theorem dX10_page_112 : decode cX10_page 112 = .ok (.iconst 0, 1) := by decide +kernel
theorem dX10_page_113 : decode cX10_page 113 = .ok (.iconst 1, 1) := by decide +kernel
theorem dX10_page_114 : decode cX10_page 114 = .ok (.invokevirtual 212, 3) := by decide +kernel
theorem dX10_page_117 : decode cX10_page 117 = .ok (.istore_n 3, 1) := by decide +kernel
theorem dX10_page_118 : decode cX10_page 118 = .ok (.aload_n 0, 1) := by decide +kernel
theorem dX10_page_119 : decode cX10_page 119 = .ok (.bipush 58, 2) := by decide +kernel
theorem dX10_page_121 : decode cX10_page 121 = .ok (.invokevirtual 218, 3) := by decide +kernel
theorem dX10_page_124 : decode cX10_page 124 = .ok (.aload_n 0, 1) := by decide +kernel
theorem dX10_page_125 : decode cX10_page 125 = .ok (.getfield 178, 3) := by decide +kernel
theorem dX10_page_128 : decode cX10_page 128 = .ok (.ifCond .ne 7, 3) := by decide +kernel
theorem dX10_page_131 : decode cX10_page 131 = .ok (.iconst 1, 1) := by decide +kernel
theorem dX10_page_132 : decode cX10_page 132 = .ok (.goto 4, 3) := by decide +kernel
theorem dX10_page_135 : decode cX10_page 135 = .ok (.iconst 0, 1) := by decide +kernel
theorem dX10_page_136 : decode cX10_page 136 = .ok (.istore 4, 2) := by decide +kernel
theorem dX10_page_138 : decode cX10_page 138 = .ok (.iload 4, 2) := by decide +kernel
theorem dX10_page_140 : decode cX10_page 140 = .ok (.ifCond .eq 47, 3) := by decide +kernel
theorem dX10_page_143 : decode cX10_page 143 = .ok (.aload_n 0, 1) := by decide +kernel
theorem dX10_page_144 : decode cX10_page 144 = .ok (.invokevirtual 225, 3) := by decide +kernel
theorem dX10_page_147 : decode cX10_page 147 = .ok (.aload_n 0, 1) := by decide +kernel
theorem dX10_page_148 : decode cX10_page 148 = .ok (.getfield 178, 3) := by decide +kernel
theorem dX10_page_151 : decode cX10_page 151 = .ok (.ifCond .ne 16, 3) := by decide +kernel
theorem dX10_page_154 : decode cX10_page 154 = .ok (.aload_n 0, 1) := by decide +kernel
theorem dX10_page_155 : decode cX10_page 155 = .ok (.invokevirtual 181, 3) := by decide +kernel
theorem dX10_page_158 : decode cX10_page 158 = .ok (.bipush 44, 2) := by decide +kernel
theorem dX10_page_160 : decode cX10_page 160 = .ok (.if_icmp .ne 7, 3) := by decide +kernel
theorem dX10_page_163 : decode cX10_page 163 = .ok (.iconst 1, 1) := by decide +kernel
theorem dX10_page_164 : decode cX10_page 164 = .ok (.goto 4, 3) := by decide +kernel
theorem dX10_page_167 : decode cX10_page 167 = .ok (.iconst 0, 1) := by decide +kernel
theorem dX10_page_168 : decode cX10_page 168 = .ok (.istore 4, 2) := by decide +kernel
theorem dX10_page_170 : decode cX10_page 170 = .ok (.aload_n 0, 1) := by decide +kernel
theorem dX10_page_171 : decode cX10_page 171 = .ok (.dup, 1) := by decide +kernel
theorem dX10_page_172 : decode cX10_page 172 = .ok (.getfield 175, 3) := by decide +kernel
theorem dX10_page_175 : decode cX10_page 175 = .ok (.iload 4, 2) := by decide +kernel
theorem dX10_page_177 : decode cX10_page 177 = .ok (.invokestatic 198, 3) := by decide +kernel
theorem dX10_page_180 : decode cX10_page 180 = .ok (.iadd, 1) := by decide +kernel
theorem dX10_page_181 : decode cX10_page 181 = .ok (.putfield 175, 3) := by decide +kernel
theorem dX10_page_184 : decode cX10_page 184 = .ok (.goto (-46), 3) := by decide +kernel
theorem dX10_page_187 : decode cX10_page 187 = .ok (.aload_n 0, 1) := by decide +kernel
theorem dX10_page_188 : decode cX10_page 188 = .ok (.getfield 178, 3) := by decide +kernel
theorem dX10_page_191 : decode cX10_page 191 = .ok (.ifCond .ne 29, 3) := by decide +kernel
theorem dX10_page_194 : decode cX10_page 194 = .ok (.aload_n 0, 1) := by decide +kernel
theorem dX10_page_195 : decode cX10_page 195 = .ok (.invokevirtual 181, 3) := by decide +kernel
theorem dX10_page_198 : decode cX10_page 198 = .ok (.istore 5, 2) := by decide +kernel
theorem dX10_page_200 : decode cX10_page 200 = .ok (.aload_n 0, 1) := by decide +kernel
theorem dX10_page_201 : decode cX10_page 201 = .ok (.iload 5, 2) := by decide +kernel
theorem dX10_page_203 : decode cX10_page 203 = .ok (.ifCond .ge 7, 3) := by decide +kernel
theorem dX10_page_206 : decode cX10_page 206 = .ok (.iconst 1, 1) := by decide +kernel
theorem dX10_page_207 : decode cX10_page 207 = .ok (.goto 4, 3) := by decide +kernel
theorem dX10_page_210 : decode cX10_page 210 = .ok (.iconst 0, 1) := by decide +kernel
theorem dX10_page_211 : decode cX10_page 211 = .ok (.iconst 1, 1) := by decide +kernel
theorem dX10_page_212 : decode cX10_page 212 = .ok (.aload_n 0, 1) := by decide +kernel
theorem dX10_page_213 : decode cX10_page 213 = .ok (.getfield 175, 3) := by decide +kernel
theorem dX10_page_216 : decode cX10_page 216 = .ok (.invokevirtual 194, 3) := by decide +kernel
theorem dX10_page_219 : decode cX10_page 219 = .ok (.istore_n 1, 1) := by decide +kernel
theorem dX10_page_220 : decode cX10_page 220 = .ok (.aload_n 0, 1) := by decide +kernel
theorem dX10_page_221 : decode cX10_page 221 = .ok (.iconst 0, 1) := by decide +kernel
theorem dX10_page_222 : decode cX10_page 222 = .ok (.putfield 118, 3) := by decide +kernel
theorem dX10_page_225 : decode cX10_page 225 = .ok (.aload_n 0, 1) := by decide +kernel
theorem dX10_page_226 : decode cX10_page 226 = .ok (.getfield 178, 3) := by decide +kernel
theorem dX10_page_229 : decode cX10_page 229 = .ok (.ifCond .le 11, 3) := by decide +kernel
theorem dX10_page_232 : decode cX10_page 232 = .ok (.bipush (-10), 2) := by decide +kernel
theorem dX10_page_234 : decode cX10_page 234 = .ok (.aload_n 0, 1) := by decide +kernel
theorem dX10_page_235 : decode cX10_page 235 = .ok (.getfield 178, 3) := by decide +kernel
theorem dX10_page_238 : decode cX10_page 238 = .ok (.isub, 1) := by decide +kernel
theorem dX10_page_239 : decode cX10_page 239 = .ok (.ireturn, 1) := by decide +kernel
theorem dX10_page_240 : decode cX10_page 240 = .ok (.aload_n 0, 1) := by decide +kernel
theorem dX10_page_241 : decode cX10_page 241 = .ok (.getfield 37, 3) := by decide +kernel
theorem dX10_page_244 : decode cX10_page 244 = .ok (.aload_n 0, 1) := by decide +kernel
theorem dX10_page_245 : decode cX10_page 245 = .ok (.getfield 156, 3) := by decide +kernel
theorem dX10_page_248 : decode cX10_page 248 = .ok (.iload_n 2, 1) := by decide +kernel
theorem dX10_page_249 : decode cX10_page 249 = .ok (.iastore, 1) := by decide +kernel
theorem dX10_page_250 : decode cX10_page 250 = .ok (.aload_n 0, 1) := by decide +kernel
theorem dX10_page_251 : decode cX10_page 251 = .ok (.getfield 40, 3) := by decide +kernel
theorem dX10_page_254 : decode cX10_page 254 = .ok (.aload_n 0, 1) := by decide +kernel
theorem dX10_page_255 : decode cX10_page 255 = .ok (.getfield 156, 3) := by decide +kernel
theorem dX10_page_258 : decode cX10_page 258 = .ok (.iload_n 3, 1) := by decide +kernel
theorem dX10_page_259 : decode cX10_page 259 = .ok (.iastore, 1) := by decide +kernel
theorem dX10_page_260 : decode cX10_page 260 = .ok (.iconst 0, 1) := by decide +kernel
theorem dX10_page_261 : decode cX10_page 261 = .ok (.istore 5, 2) := by decide +kernel
theorem dX10_page_263 : decode cX10_page 263 = .ok (.iload 5, 2) := by decide +kernel
theorem dX10_page_265 : decode cX10_page 265 = .ok (.aload_n 0, 1) := by decide +kernel
theorem dX10_page_266 : decode cX10_page 266 = .ok (.getfield 205, 3) := by decide +kernel
theorem dX10_page_269 : decode cX10_page 269 = .ok (.if_icmp .ge 140, 3) := by decide +kernel
theorem dX10_page_272 : decode cX10_page 272 = .ok (.aload_n 0, 1) := by decide +kernel
theorem dX10_page_273 : decode cX10_page 273 = .ok (.getfield 43, 3) := by decide +kernel
theorem dX10_page_276 : decode cX10_page 276 = .ok (.aload_n 0, 1) := by decide +kernel
theorem dX10_page_277 : decode cX10_page 277 = .ok (.getfield 159, 3) := by decide +kernel
theorem dX10_page_280 : decode cX10_page 280 = .ok (.aload_n 0, 1) := by decide +kernel
theorem dX10_page_281 : decode cX10_page 281 = .ok (.getfield 156, 3) := by decide +kernel
theorem dX10_page_284 : decode cX10_page 284 = .ok (.iastore, 1) := by decide +kernel
theorem dX10_page_285 : decode cX10_page 285 = .ok (.aload_n 0, 1) := by decide +kernel
theorem dX10_page_286 : decode cX10_page 286 = .ok (.getfield 46, 3) := by decide +kernel
theorem dX10_page_289 : decode cX10_page 289 = .ok (.aload_n 0, 1) := by decide +kernel
theorem dX10_page_290 : decode cX10_page 290 = .ok (.getfield 159, 3) := by decide +kernel
theorem dX10_page_293 : decode cX10_page 293 = .ok (.aload_n 0, 1) := by decide +kernel
theorem dX10_page_294 : decode cX10_page 294 = .ok (.getfield 71, 3) := by decide +kernel
theorem dX10_page_297 : decode cX10_page 297 = .ok (.iload 5, 2) := by decide +kernel
theorem dX10_page_299 : decode cX10_page 299 = .ok (.iaload, 1) := by decide +kernel
theorem dX10_page_300 : decode cX10_page 300 = .ok (.iastore, 1) := by decide +kernel
theorem dX10_page_301 : decode cX10_page 301 = .ok (.aload_n 0, 1) := by decide +kernel
theorem dX10_page_302 : decode cX10_page 302 = .ok (.getfield 49, 3) := by decide +kernel
theorem dX10_page_305 : decode cX10_page 305 = .ok (.aload_n 0, 1) := by decide +kernel
theorem dX10_page_306 : decode cX10_page 306 = .ok (.getfield 159, 3) := by decide +kernel
theorem dX10_page_309 : decode cX10_page 309 = .ok (.aload_n 0, 1) := by decide +kernel
theorem dX10_page_310 : decode cX10_page 310 = .ok (.getfield 74, 3) := by decide +kernel
theorem dX10_page_313 : decode cX10_page 313 = .ok (.iload 5, 2) := by decide +kernel
theorem dX10_page_315 : decode cX10_page 315 = .ok (.iaload, 1) := by decide +kernel
theorem dX10_page_316 : decode cX10_page 316 = .ok (.iastore, 1) := by decide +kernel
theorem dX10_page_317 : decode cX10_page 317 = .ok (.aload_n 0, 1) := by decide +kernel
theorem dX10_page_318 : decode cX10_page 318 = .ok (.getfield 55, 3) := by decide +kernel
theorem dX10_page_321 : decode cX10_page 321 = .ok (.aload_n 0, 1) := by decide +kernel
theorem dX10_page_322 : decode cX10_page 322 = .ok (.getfield 159, 3) := by decide +kernel
theorem dX10_page_325 : decode cX10_page 325 = .ok (.aload_n 0, 1) := by decide +kernel
theorem dX10_page_326 : decode cX10_page 326 = .ok (.getfield 77, 3) := by decide +kernel
theorem dX10_page_329 : decode cX10_page 329 = .ok (.iload 5, 2) := by decide +kernel
theorem dX10_page_331 : decode cX10_page 331 = .ok (.iaload, 1) := by decide +kernel
theorem dX10_page_332 : decode cX10_page 332 = .ok (.iastore, 1) := by decide +kernel
theorem dX10_page_333 : decode cX10_page 333 = .ok (.aload_n 0, 1) := by decide +kernel
theorem dX10_page_334 : decode cX10_page 334 = .ok (.getfield 52, 3) := by decide +kernel
theorem dX10_page_337 : decode cX10_page 337 = .ok (.aload_n 0, 1) := by decide +kernel
theorem dX10_page_338 : decode cX10_page 338 = .ok (.getfield 159, 3) := by decide +kernel
theorem dX10_page_341 : decode cX10_page 341 = .ok (.aload_n 0, 1) := by decide +kernel
theorem dX10_page_342 : decode cX10_page 342 = .ok (.getfield 74, 3) := by decide +kernel
theorem dX10_page_345 : decode cX10_page 345 = .ok (.iload 5, 2) := by decide +kernel
theorem dX10_page_347 : decode cX10_page 347 = .ok (.iaload, 1) := by decide +kernel
theorem dX10_page_348 : decode cX10_page 348 = .ok (.ifCond .ge 10, 3) := by decide +kernel
theorem dX10_page_351 : decode cX10_page 351 = .ok (.aload_n 0, 1) := by decide +kernel
theorem dX10_page_352 : decode cX10_page 352 = .ok (.getfield 162, 3) := by decide +kernel
theorem dX10_page_355 : decode cX10_page 355 = .ok (.goto 4, 3) := by decide +kernel
theorem dX10_page_358 : decode cX10_page 358 = .ok (.iconst (-1), 1) := by decide +kernel
theorem dX10_page_359 : decode cX10_page 359 = .ok (.iastore, 1) := by decide +kernel
theorem dX10_page_360 : decode cX10_page 360 = .ok (.aload_n 0, 1) := by decide +kernel
theorem dX10_page_361 : decode cX10_page 361 = .ok (.getfield 74, 3) := by decide +kernel
theorem dX10_page_364 : decode cX10_page 364 = .ok (.iload 5, 2) := by decide +kernel
theorem dX10_page_366 : decode cX10_page 366 = .ok (.iaload, 1) := by decide +kernel
theorem dX10_page_367 : decode cX10_page 367 = .ok (.ifCond .ge 26, 3) := by decide +kernel
theorem dX10_page_370 : decode cX10_page 370 = .ok (.aload_n 0, 1) := by decide +kernel
theorem dX10_page_371 : decode cX10_page 371 = .ok (.getfield 58, 3) := by decide +kernel
theorem dX10_page_374 : decode cX10_page 374 = .ok (.aload_n 0, 1) := by decide +kernel
theorem dX10_page_375 : decode cX10_page 375 = .ok (.getfield 162, 3) := by decide +kernel
theorem dX10_page_378 : decode cX10_page 378 = .ok (.aload_n 0, 1) := by decide +kernel
theorem dX10_page_379 : decode cX10_page 379 = .ok (.getfield 159, 3) := by decide +kernel
theorem dX10_page_382 : decode cX10_page 382 = .ok (.iastore, 1) := by decide +kernel
theorem dX10_page_383 : decode cX10_page 383 = .ok (.aload_n 0, 1) := by decide +kernel
theorem dX10_page_384 : decode cX10_page 384 = .ok (.dup, 1) := by decide +kernel
theorem dX10_page_385 : decode cX10_page 385 = .ok (.getfield 162, 3) := by decide +kernel
theorem dX10_page_388 : decode cX10_page 388 = .ok (.iconst 1, 1) := by decide +kernel
theorem dX10_page_389 : decode cX10_page 389 = .ok (.iadd, 1) := by decide +kernel
theorem dX10_page_390 : decode cX10_page 390 = .ok (.putfield 162, 3) := by decide +kernel
theorem dX10_page_393 : decode cX10_page 393 = .ok (.aload_n 0, 1) := by decide +kernel
theorem dX10_page_394 : decode cX10_page 394 = .ok (.dup, 1) := by decide +kernel
theorem dX10_page_395 : decode cX10_page 395 = .ok (.getfield 159, 3) := by decide +kernel
theorem dX10_page_398 : decode cX10_page 398 = .ok (.iconst 1, 1) := by decide +kernel
theorem dX10_page_399 : decode cX10_page 399 = .ok (.iadd, 1) := by decide +kernel
theorem dX10_page_400 : decode cX10_page 400 = .ok (.putfield 159, 3) := by decide +kernel
theorem dX10_page_403 : decode cX10_page 403 = .ok (.iinc 5 1, 3) := by decide +kernel
theorem dX10_page_406 : decode cX10_page 406 = .ok (.goto (-143), 3) := by decide +kernel
theorem dX10_page_409 : decode cX10_page 409 = .ok (.aload_n 0, 1) := by decide +kernel
theorem dX10_page_410 : decode cX10_page 410 = .ok (.dup, 1) := by decide +kernel
theorem dX10_page_411 : decode cX10_page 411 = .ok (.getfield 156, 3) := by decide +kernel
theorem dX10_page_414 : decode cX10_page 414 = .ok (.iconst 1, 1) := by decide +kernel
theorem dX10_page_415 : decode cX10_page 415 = .ok (.iadd, 1) := by decide +kernel
theorem dX10_page_416 : decode cX10_page 416 = .ok (.putfield 156, 3) := by decide +kernel
theorem dX10_page_419 : decode cX10_page 419 = .ok (.aload_n 0, 1) := by decide +kernel
theorem dX10_page_420 : decode cX10_page 420 = .ok (.getfield 156, 3) := by decide +kernel
theorem dX10_page_423 : decode cX10_page 423 = .ok (.iconst 1, 1) := by decide +kernel
theorem dX10_page_424 : decode cX10_page 424 = .ok (.isub, 1) := by decide +kernel
theorem dX10_page_425 : decode cX10_page 425 = .ok (.ireturn, 1) := by decide +kernel
def BX10_page_111 (I111 : Int32 → XT → YT → Prop) (I138 : Int32 → Int32 → Int32 → XT → YT → Prop) (I220 : Int32 → Int32 → XT → YT → Prop) (I211 : Int32 → Int32 → Int32 → XT → YT → Prop) (I167 : Int32 → Int32 → XT → YT → Prop) (I168 : Int32 → Int32 → Int32 → XT → YT → Prop) (I263 : Int32 → XT → YT → Prop) (I359 : Int32 → Int32 → Int32 → XT → YT → Prop) (Q : Int32 → XT → YT → Prop) (a2 : Int32) (X : XT) (Y : YT) : Prop :=
  PX10_takeNumber 0 1 X Y (fun r1 X2 Y3 => PX10_takeSign 58 X2 Y3 (fun X6 Y7 => ((¬ (X6 48 30) = 0 → I138 a2 r1 0 X6 Y7) ∧ ((X6 48 30) = 0 → I138 a2 r1 1 X6 Y7))))
def BX10_page_138 (I111 : Int32 → XT → YT → Prop) (I138 : Int32 → Int32 → Int32 → XT → YT → Prop) (I220 : Int32 → Int32 → XT → YT → Prop) (I211 : Int32 → Int32 → Int32 → XT → YT → Prop) (I167 : Int32 → Int32 → XT → YT → Prop) (I168 : Int32 → Int32 → Int32 → XT → YT → Prop) (I263 : Int32 → XT → YT → Prop) (I359 : Int32 → Int32 → Int32 → XT → YT → Prop) (Q : Int32 → XT → YT → Prop) (a2 : Int32) (a3 : Int32) (a4 : Int32) (X : XT) (Y : YT) : Prop :=
  ((a4 = 0 → ((¬ (X 48 30) = 0 → I220 a2 a3 X Y) ∧ ((X 48 30) = 0 → PX10_here X Y (fun r3 X4 Y5 => ((0 ≤ r3 → I211 a2 a3 0 X4 Y5) ∧ (¬ 0 ≤ r3 → I211 a2 a3 1 X4 Y5)))))) ∧ (¬ a4 = 0 → PX10_takePlace X Y (fun X9 Y10 => ((¬ (X9 48 30) = 0 → I167 a2 a3 X9 Y10) ∧ ((X9 48 30) = 0 → PX10_here X9 Y10 (fun r13 X14 Y15 => ((¬ r13 = 44 → I167 a2 a3 X14 Y15) ∧ (r13 = 44 → I168 a2 a3 1 X14 Y15))))))))
def BX10_page_220 (I111 : Int32 → XT → YT → Prop) (I138 : Int32 → Int32 → Int32 → XT → YT → Prop) (I220 : Int32 → Int32 → XT → YT → Prop) (I211 : Int32 → Int32 → Int32 → XT → YT → Prop) (I167 : Int32 → Int32 → XT → YT → Prop) (I168 : Int32 → Int32 → Int32 → XT → YT → Prop) (I263 : Int32 → XT → YT → Prop) (I359 : Int32 → Int32 → Int32 → XT → YT → Prop) (Q : Int32 → XT → YT → Prop) (a2 : Int32) (a3 : Int32) (X : XT) (Y : YT) : Prop :=
  ((((sX X 48 12 0) 48 30) ≤ 0 → vp_in ((sX X 48 12 0) 48 13) 8 ∧ ∀ X2 : XT, X2 = sX (sX X 48 12 0) 58 ((sX X 48 12 0) 48 13).toNatClampNeg a2 → vp_in (X2 48 13) 8 ∧ I263 0 (sX X2 59 (X2 48 13).toNatClampNeg a3) Y) ∧ (¬ ((sX X 48 12 0) 48 30) ≤ 0 → Q ((-10) - ((sX X 48 12 0) 48 30)) (sX X 48 12 0) Y))
def BX10_page_211 (I111 : Int32 → XT → YT → Prop) (I138 : Int32 → Int32 → Int32 → XT → YT → Prop) (I220 : Int32 → Int32 → XT → YT → Prop) (I211 : Int32 → Int32 → Int32 → XT → YT → Prop) (I167 : Int32 → Int32 → XT → YT → Prop) (I168 : Int32 → Int32 → Int32 → XT → YT → Prop) (I263 : Int32 → XT → YT → Prop) (I359 : Int32 → Int32 → Int32 → XT → YT → Prop) (Q : Int32 → XT → YT → Prop) (a2 : Int32) (a3 : Int32) (t0 : Int32) (X : XT) (Y : YT) : Prop :=
  PX10_want t0 1 (X 48 27) X Y (fun r1 X2 Y3 => I220 a2 a3 X2 Y3)
def BX10_page_167 (I111 : Int32 → XT → YT → Prop) (I138 : Int32 → Int32 → Int32 → XT → YT → Prop) (I220 : Int32 → Int32 → XT → YT → Prop) (I211 : Int32 → Int32 → Int32 → XT → YT → Prop) (I167 : Int32 → Int32 → XT → YT → Prop) (I168 : Int32 → Int32 → Int32 → XT → YT → Prop) (I263 : Int32 → XT → YT → Prop) (I359 : Int32 → Int32 → Int32 → XT → YT → Prop) (Q : Int32 → XT → YT → Prop) (a2 : Int32) (a3 : Int32) (X : XT) (Y : YT) : Prop :=
  I168 a2 a3 0 X Y
def BX10_page_168 (I111 : Int32 → XT → YT → Prop) (I138 : Int32 → Int32 → Int32 → XT → YT → Prop) (I220 : Int32 → Int32 → XT → YT → Prop) (I211 : Int32 → Int32 → Int32 → XT → YT → Prop) (I167 : Int32 → Int32 → XT → YT → Prop) (I168 : Int32 → Int32 → Int32 → XT → YT → Prop) (I263 : Int32 → XT → YT → Prop) (I359 : Int32 → Int32 → Int32 → XT → YT → Prop) (Q : Int32 → XT → YT → Prop) (a2 : Int32) (a3 : Int32) (t0 : Int32) (X : XT) (Y : YT) : Prop :=
  PX10_one t0 X Y (fun r1 X2 Y3 => I138 a2 a3 t0 (sX X2 48 27 ((X 48 27) + r1)) Y3)
def BX10_page_263 (I111 : Int32 → XT → YT → Prop) (I138 : Int32 → Int32 → Int32 → XT → YT → Prop) (I220 : Int32 → Int32 → XT → YT → Prop) (I211 : Int32 → Int32 → Int32 → XT → YT → Prop) (I167 : Int32 → Int32 → XT → YT → Prop) (I168 : Int32 → Int32 → Int32 → XT → YT → Prop) (I263 : Int32 → XT → YT → Prop) (I359 : Int32 → Int32 → Int32 → XT → YT → Prop) (Q : Int32 → XT → YT → Prop) (a5 : Int32) (X : XT) (Y : YT) : Prop :=
  (((X 48 32) ≤ a5 → Q (((sX X 48 13 ((X 48 13) + 1)) 48 13) - 1) (sX X 48 13 ((X 48 13) + 1)) Y) ∧ (¬ (X 48 32) ≤ a5 → vp_in (X 48 16) 32 ∧ ∀ X2 : XT, X2 = sX X 60 (X 48 16).toNatClampNeg (X 48 13) → vp_in a5 4 ∧ vp_in (X2 48 16) 32 ∧ ∀ X4 : XT, X4 = sX X2 61 (X2 48 16).toNatClampNeg (X2 68 a5.toNatClampNeg) → vp_in a5 4 ∧ vp_in (X4 48 16) 32 ∧ ∀ X6 : XT, X6 = sX X4 62 (X4 48 16).toNatClampNeg (X4 69 a5.toNatClampNeg) → vp_in a5 4 ∧ vp_in (X6 48 16) 32 ∧ ∀ X8 : XT, X8 = sX X6 64 (X6 48 16).toNatClampNeg (X6 70 a5.toNatClampNeg) → vp_in a5 4 ∧ ((0 ≤ (X8 69 a5.toNatClampNeg) → I359 a5 (-1) (X8 48 16) X8 Y) ∧ (¬ 0 ≤ (X8 69 a5.toNatClampNeg) → I359 a5 (X8 48 22) (X8 48 16) X8 Y))))
def BX10_page_359 (I111 : Int32 → XT → YT → Prop) (I138 : Int32 → Int32 → Int32 → XT → YT → Prop) (I220 : Int32 → Int32 → XT → YT → Prop) (I211 : Int32 → Int32 → Int32 → XT → YT → Prop) (I167 : Int32 → Int32 → XT → YT → Prop) (I168 : Int32 → Int32 → Int32 → XT → YT → Prop) (I263 : Int32 → XT → YT → Prop) (I359 : Int32 → Int32 → Int32 → XT → YT → Prop) (Q : Int32 → XT → YT → Prop) (a5 : Int32) (t0 : Int32) (t1 : Int32) (X : XT) (Y : YT) : Prop :=
  vp_in t1 32 ∧ vp_in a5 4 ∧ ((0 ≤ ((sX X 63 t1.toNatClampNeg t0) 69 a5.toNatClampNeg) → ∀ X2 : XT, X2 = sX (sX X 63 t1.toNatClampNeg t0) 48 16 (((sX X 63 t1.toNatClampNeg t0) 48 16) + 1) → ∀ w4 : Int32, w4 = a5 + 1 → I263 w4 X2 Y) ∧ (¬ 0 ≤ ((sX X 63 t1.toNatClampNeg t0) 69 a5.toNatClampNeg) → vp_in ((sX X 63 t1.toNatClampNeg t0) 48 22) 10 ∧ ∀ X6 : XT, X6 = sX (sX X 63 t1.toNatClampNeg t0) 65 ((sX X 63 t1.toNatClampNeg t0) 48 22).toNatClampNeg ((sX X 63 t1.toNatClampNeg t0) 48 16) → ∀ X8 : XT, X8 = sX (sX X6 48 22 ((X6 48 22) + 1)) 48 16 (((sX X6 48 22 ((X6 48 22) + 1)) 48 16) + 1) → ∀ w10 : Int32, w10 = a5 + 1 → I263 w10 X8 Y))
def BX10_page_s (I111 : Int32 → XT → YT → Prop) (I138 : Int32 → Int32 → Int32 → XT → YT → Prop) (I220 : Int32 → Int32 → XT → YT → Prop) (I211 : Int32 → Int32 → Int32 → XT → YT → Prop) (I167 : Int32 → Int32 → XT → YT → Prop) (I168 : Int32 → Int32 → Int32 → XT → YT → Prop) (I263 : Int32 → XT → YT → Prop) (I359 : Int32 → Int32 → Int32 → XT → YT → Prop) (Q : Int32 → XT → YT → Prop) (X : XT) (Y : YT) : Prop :=
  ((¬ (X 48 13) = 8 → ∀ X2 : XT, X2 = sX (sX (sX X 48 27 0) 48 30 0) 48 31 (-1) → PX10_takeWord (sX (sX X2 48 32 0) 48 33 0) Y (fun X5 Y6 => PX10_isWord 3 100 97 121 0 0 0 X5 Y6 (fun r8 X9 Y10 => PX10_want r8 1 (X9 48 28) X9 Y10 (fun r12 X13 Y14 => PX10_takeNumber 0 99 X13 Y14 (fun r16 X17 Y18 => ((¬ (X17 48 30) = 0 → I111 r16 X17 Y18) ∧ ((X17 48 30) = 0 → PX10_takeWord X17 Y18 (fun X22 Y23 => PX10_isWord 5 102 111 117 110 116 0 X22 Y23 (fun r25 X26 Y27 => PX10_want r25 1 (X26 48 28) X26 Y27 (fun r29 X30 Y31 => I111 r16 X30 Y31)))))))))) ∧ ((X 48 13) = 8 → Q (-1004) X Y))
def PX10_page (X : XT) (Y : YT) (Q : Int32 → XT → YT → Prop) : Prop := ∀ (I111 : Int32 → XT → YT → Prop) (I138 : Int32 → Int32 → Int32 → XT → YT → Prop) (I220 : Int32 → Int32 → XT → YT → Prop) (I211 : Int32 → Int32 → Int32 → XT → YT → Prop) (I167 : Int32 → Int32 → XT → YT → Prop) (I168 : Int32 → Int32 → Int32 → XT → YT → Prop) (I263 : Int32 → XT → YT → Prop) (I359 : Int32 → Int32 → Int32 → XT → YT → Prop), (∀ (a2 : Int32) (X : XT) (Y : YT), BX10_page_111 I111 I138 I220 I211 I167 I168 I263 I359 Q a2 X Y → I111 a2 X Y) → (∀ (a2 : Int32) (a3 : Int32) (a4 : Int32) (X : XT) (Y : YT), BX10_page_138 I111 I138 I220 I211 I167 I168 I263 I359 Q a2 a3 a4 X Y → I138 a2 a3 a4 X Y) → (∀ (a2 : Int32) (a3 : Int32) (X : XT) (Y : YT), BX10_page_220 I111 I138 I220 I211 I167 I168 I263 I359 Q a2 a3 X Y → I220 a2 a3 X Y) → (∀ (a2 : Int32) (a3 : Int32) (t0 : Int32) (X : XT) (Y : YT), BX10_page_211 I111 I138 I220 I211 I167 I168 I263 I359 Q a2 a3 t0 X Y → I211 a2 a3 t0 X Y) → (∀ (a2 : Int32) (a3 : Int32) (X : XT) (Y : YT), BX10_page_167 I111 I138 I220 I211 I167 I168 I263 I359 Q a2 a3 X Y → I167 a2 a3 X Y) → (∀ (a2 : Int32) (a3 : Int32) (t0 : Int32) (X : XT) (Y : YT), BX10_page_168 I111 I138 I220 I211 I167 I168 I263 I359 Q a2 a3 t0 X Y → I168 a2 a3 t0 X Y) → (∀ (a5 : Int32) (X : XT) (Y : YT), BX10_page_263 I111 I138 I220 I211 I167 I168 I263 I359 Q a5 X Y → I263 a5 X Y) → (∀ (a5 : Int32) (t0 : Int32) (t1 : Int32) (X : XT) (Y : YT), BX10_page_359 I111 I138 I220 I211 I167 I168 I263 I359 Q a5 t0 t1 X Y → I359 a5 t0 t1 X Y) → BX10_page_s I111 I138 I220 I211 I167 I168 I263 I359 Q X Y
set_option maxHeartbeats 4000000 in
set_option maxRecDepth 100000 in
theorem kX10_page_111 {Γ : Cxt} {Q : Int32 → XT → YT → Prop} (O : Ok Γ RX10 cX10_page 6 { frames := 4, cells := 0, slots := 0, locals := 90 }) (r : Ret Γ (some .int) (qI Q)) {I111 : Int32 → XT → YT → Prop} {I138 : Int32 → Int32 → Int32 → XT → YT → Prop} {I220 : Int32 → Int32 → XT → YT → Prop} {I211 : Int32 → Int32 → Int32 → XT → YT → Prop} {I167 : Int32 → Int32 → XT → YT → Prop} {I168 : Int32 → Int32 → Int32 → XT → YT → Prop} {I263 : Int32 → XT → YT → Prop} {I359 : Int32 → Int32 → Int32 → XT → YT → Prop} (e111 : ∀ (a2 : Int32) (X : XT) (Y : YT), I111 a2 X Y → V Γ 111 [(0, .ref 48), (2, .int a2)] [] X Y) (e138 : ∀ (a2 : Int32) (a3 : Int32) (a4 : Int32) (X : XT) (Y : YT), I138 a2 a3 a4 X Y → V Γ 138 [(0, .ref 48), (2, .int a2), (3, .int a3), (4, .int a4)] [] X Y) (e220 : ∀ (a2 : Int32) (a3 : Int32) (X : XT) (Y : YT), I220 a2 a3 X Y → V Γ 220 [(0, .ref 48), (2, .int a2), (3, .int a3)] [] X Y) (e211 : ∀ (a2 : Int32) (a3 : Int32) (t0 : Int32) (X : XT) (Y : YT), I211 a2 a3 t0 X Y → V Γ 211 [(0, .ref 48), (2, .int a2), (3, .int a3)] [.int t0, .ref 48] X Y) (e167 : ∀ (a2 : Int32) (a3 : Int32) (X : XT) (Y : YT), I167 a2 a3 X Y → V Γ 167 [(0, .ref 48), (2, .int a2), (3, .int a3)] [] X Y) (e168 : ∀ (a2 : Int32) (a3 : Int32) (t0 : Int32) (X : XT) (Y : YT), I168 a2 a3 t0 X Y → V Γ 168 [(0, .ref 48), (2, .int a2), (3, .int a3)] [.int t0] X Y) (e263 : ∀ (a5 : Int32) (X : XT) (Y : YT), I263 a5 X Y → V Γ 263 [(0, .ref 48), (5, .int a5)] [] X Y) (e359 : ∀ (a5 : Int32) (t0 : Int32) (t1 : Int32) (X : XT) (Y : YT), I359 a5 t0 t1 X Y → V Γ 359 [(0, .ref 48), (5, .int a5)] [.int t0, .int t1, .ref 63] X Y) {a2 : Int32} {X : XT} {Y : YT} (h : BX10_page_111 I111 I138 I220 I211 I167 I168 I263 I359 Q a2 X Y) : V Γ 111 [(0, .ref 48), (2, .int a2)] [] X Y := by
  refine v_aload_n O dX10_page_111 rfl 0 rfl ?_
  refine v_iconst O dX10_page_112 kc_0 ?_
  refine v_iconst O dX10_page_113 kc_1 ?_
  refine v_callV (rm' := { frames := 1, cells := 0, slots := 0, locals := 25 }) (As := [.int 0, .int 1]) (st := []) O dX10_page_114 ci_X10_takeNumber ml_X10_212 mi_X10_takeNumber sh_48 rfl ⟨rfl, rfl, (by decide), (by decide)⟩ rfl (Nat.le_of_ble_eq_true rfl) rfl (mX10_takeNumber h) (k_I (fun r1 X2 Y3 h4 => ?_))
  refine v_istore_n (lv' := [(3, .int r1), (0, .ref 48), (2, .int a2)]) O dX10_page_117 rfl (by decide) rfl ?_
  refine v_aload_n O dX10_page_118 rfl 1 rfl ?_
  refine v_bipush O dX10_page_119 kb_58 ?_
  refine v_callV (rm' := { frames := 1, cells := 0, slots := 0, locals := 23 }) (As := [.int 58]) (st := []) O dX10_page_121 ci_X10_takeSign ml_X10_218 mi_X10_takeSign sh_48 rfl ⟨rfl, rfl, (by decide), (by decide)⟩ rfl (Nat.le_of_ble_eq_true rfl) rfl (mX10_takeSign h4) (k_V (fun X6 Y7 h8 => ?_))
  refine v_aload_n O dX10_page_124 rfl 1 rfl ?_
  refine v_get O dX10_page_125 fo_X10_178 sh_48 rfl rfl ?_
  refine v_if_ne (tgt := 135) O dX10_page_128 (by decide) (fun g9 => ?_) (fun g9 => ?_)
  · refine v_iconst O dX10_page_135 kc_0 ?_
    refine v_istore (lv' := [(4, .int 0), (3, .int r1), (0, .ref 48), (2, .int a2)]) O dX10_page_136 (by decide) rfl ?_
    exact v_loc [2, 3, 1, 0] rfl (e138 a2 r1 0 X6 Y7 (h8.1 g9))
  · refine v_iconst O dX10_page_131 kc_1 ?_
    refine v_goto O dX10_page_132 (tgt := 136) (by decide) ?_
    refine v_istore (lv' := [(4, .int 1), (3, .int r1), (0, .ref 48), (2, .int a2)]) O dX10_page_136 (by decide) rfl ?_
    exact v_loc [2, 3, 1, 0] rfl (e138 a2 r1 1 X6 Y7 (h8.2 g9))
set_option maxHeartbeats 4000000 in
set_option maxRecDepth 100000 in
theorem kX10_page_138 {Γ : Cxt} {Q : Int32 → XT → YT → Prop} (O : Ok Γ RX10 cX10_page 6 { frames := 4, cells := 0, slots := 0, locals := 90 }) (r : Ret Γ (some .int) (qI Q)) {I111 : Int32 → XT → YT → Prop} {I138 : Int32 → Int32 → Int32 → XT → YT → Prop} {I220 : Int32 → Int32 → XT → YT → Prop} {I211 : Int32 → Int32 → Int32 → XT → YT → Prop} {I167 : Int32 → Int32 → XT → YT → Prop} {I168 : Int32 → Int32 → Int32 → XT → YT → Prop} {I263 : Int32 → XT → YT → Prop} {I359 : Int32 → Int32 → Int32 → XT → YT → Prop} (e111 : ∀ (a2 : Int32) (X : XT) (Y : YT), I111 a2 X Y → V Γ 111 [(0, .ref 48), (2, .int a2)] [] X Y) (e138 : ∀ (a2 : Int32) (a3 : Int32) (a4 : Int32) (X : XT) (Y : YT), I138 a2 a3 a4 X Y → V Γ 138 [(0, .ref 48), (2, .int a2), (3, .int a3), (4, .int a4)] [] X Y) (e220 : ∀ (a2 : Int32) (a3 : Int32) (X : XT) (Y : YT), I220 a2 a3 X Y → V Γ 220 [(0, .ref 48), (2, .int a2), (3, .int a3)] [] X Y) (e211 : ∀ (a2 : Int32) (a3 : Int32) (t0 : Int32) (X : XT) (Y : YT), I211 a2 a3 t0 X Y → V Γ 211 [(0, .ref 48), (2, .int a2), (3, .int a3)] [.int t0, .ref 48] X Y) (e167 : ∀ (a2 : Int32) (a3 : Int32) (X : XT) (Y : YT), I167 a2 a3 X Y → V Γ 167 [(0, .ref 48), (2, .int a2), (3, .int a3)] [] X Y) (e168 : ∀ (a2 : Int32) (a3 : Int32) (t0 : Int32) (X : XT) (Y : YT), I168 a2 a3 t0 X Y → V Γ 168 [(0, .ref 48), (2, .int a2), (3, .int a3)] [.int t0] X Y) (e263 : ∀ (a5 : Int32) (X : XT) (Y : YT), I263 a5 X Y → V Γ 263 [(0, .ref 48), (5, .int a5)] [] X Y) (e359 : ∀ (a5 : Int32) (t0 : Int32) (t1 : Int32) (X : XT) (Y : YT), I359 a5 t0 t1 X Y → V Γ 359 [(0, .ref 48), (5, .int a5)] [.int t0, .int t1, .ref 63] X Y) {a2 : Int32} {a3 : Int32} {a4 : Int32} {X : XT} {Y : YT} (h : BX10_page_138 I111 I138 I220 I211 I167 I168 I263 I359 Q a2 a3 a4 X Y) : V Γ 138 [(0, .ref 48), (2, .int a2), (3, .int a3), (4, .int a4)] [] X Y := by
  refine v_iload O dX10_page_138 3 rfl ?_
  refine v_if_eq (tgt := 187) O dX10_page_140 (by decide) (fun g1 => ?_) (fun g1 => ?_)
  · refine v_aload_n O dX10_page_187 rfl 0 rfl ?_
    refine v_get O dX10_page_188 fo_X10_178 sh_48 rfl rfl ?_
    refine v_if_ne (tgt := 220) O dX10_page_191 (by decide) (fun g2 => ?_) (fun g2 => ?_)
    · exact v_loc [0, 1, 2] rfl (e220 a2 a3 X Y ((h.1 g1).1 g2))
    · refine v_aload_n O dX10_page_194 rfl 0 rfl ?_
      refine v_callV (rm' := { frames := 0, cells := 0, slots := 0, locals := 0 }) (As := []) (st := []) O dX10_page_195 ci_X10_here ml_X10_181 mi_X10_here sh_48 rfl ⟨rfl, rfl, (by decide), (by decide)⟩ rfl (Nat.le_of_ble_eq_true rfl) rfl (mX10_here ((h.1 g1).2 g2)) (k_I (fun r3 X4 Y5 h6 => ?_))
      refine v_istore (lv' := [(5, .int r3), (0, .ref 48), (2, .int a2), (3, .int a3), (4, .int a4)]) O dX10_page_198 (by decide) rfl ?_
      refine v_aload_n O dX10_page_200 rfl 1 rfl ?_
      refine v_iload O dX10_page_201 0 rfl ?_
      refine v_if_ge (tgt := 210) O dX10_page_203 (by decide) (fun g7 => ?_) (fun g7 => ?_)
      · refine v_iconst O dX10_page_210 kc_0 ?_
        exact v_loc [1, 2, 3] rfl (e211 a2 a3 0 X4 Y5 (h6.1 g7))
      · refine v_iconst O dX10_page_206 kc_1 ?_
        refine v_goto O dX10_page_207 (tgt := 211) (by decide) ?_
        exact v_loc [1, 2, 3] rfl (e211 a2 a3 1 X4 Y5 (h6.2 g7))
  · refine v_aload_n O dX10_page_143 rfl 0 rfl ?_
    refine v_callV (rm' := { frames := 3, cells := 0, slots := 0, locals := 69 }) (As := []) (st := []) O dX10_page_144 ci_X10_takePlace ml_X10_225 mi_X10_takePlace sh_48 rfl ⟨rfl, rfl, (by decide), (by decide)⟩ rfl (Nat.le_of_ble_eq_true rfl) rfl (mX10_takePlace (h.2 g1)) (k_V (fun X9 Y10 h11 => ?_))
    refine v_aload_n O dX10_page_147 rfl 0 rfl ?_
    refine v_get O dX10_page_148 fo_X10_178 sh_48 rfl rfl ?_
    refine v_if_ne (tgt := 167) O dX10_page_151 (by decide) (fun g12 => ?_) (fun g12 => ?_)
    · exact v_loc [0, 1, 2] rfl (e167 a2 a3 X9 Y10 (h11.1 g12))
    · refine v_aload_n O dX10_page_154 rfl 0 rfl ?_
      refine v_callV (rm' := { frames := 0, cells := 0, slots := 0, locals := 0 }) (As := []) (st := []) O dX10_page_155 ci_X10_here ml_X10_181 mi_X10_here sh_48 rfl ⟨rfl, rfl, (by decide), (by decide)⟩ rfl (Nat.le_of_ble_eq_true rfl) rfl (mX10_here (h11.2 g12)) (k_I (fun r13 X14 Y15 h16 => ?_))
      refine v_bipush O dX10_page_158 kb_44 ?_
      refine v_icmp_ne (tgt := 167) O dX10_page_160 (by decide) (fun g17 => ?_) (fun g17 => ?_)
      · exact v_loc [0, 1, 2] rfl (e167 a2 a3 X14 Y15 (h16.1 g17))
      · refine v_iconst O dX10_page_163 kc_1 ?_
        refine v_goto O dX10_page_164 (tgt := 168) (by decide) ?_
        exact v_loc [0, 1, 2] rfl (e168 a2 a3 1 X14 Y15 (h16.2 g17))
set_option maxHeartbeats 4000000 in
set_option maxRecDepth 100000 in
theorem kX10_page_220 {Γ : Cxt} {Q : Int32 → XT → YT → Prop} (O : Ok Γ RX10 cX10_page 6 { frames := 4, cells := 0, slots := 0, locals := 90 }) (r : Ret Γ (some .int) (qI Q)) {I111 : Int32 → XT → YT → Prop} {I138 : Int32 → Int32 → Int32 → XT → YT → Prop} {I220 : Int32 → Int32 → XT → YT → Prop} {I211 : Int32 → Int32 → Int32 → XT → YT → Prop} {I167 : Int32 → Int32 → XT → YT → Prop} {I168 : Int32 → Int32 → Int32 → XT → YT → Prop} {I263 : Int32 → XT → YT → Prop} {I359 : Int32 → Int32 → Int32 → XT → YT → Prop} (e111 : ∀ (a2 : Int32) (X : XT) (Y : YT), I111 a2 X Y → V Γ 111 [(0, .ref 48), (2, .int a2)] [] X Y) (e138 : ∀ (a2 : Int32) (a3 : Int32) (a4 : Int32) (X : XT) (Y : YT), I138 a2 a3 a4 X Y → V Γ 138 [(0, .ref 48), (2, .int a2), (3, .int a3), (4, .int a4)] [] X Y) (e220 : ∀ (a2 : Int32) (a3 : Int32) (X : XT) (Y : YT), I220 a2 a3 X Y → V Γ 220 [(0, .ref 48), (2, .int a2), (3, .int a3)] [] X Y) (e211 : ∀ (a2 : Int32) (a3 : Int32) (t0 : Int32) (X : XT) (Y : YT), I211 a2 a3 t0 X Y → V Γ 211 [(0, .ref 48), (2, .int a2), (3, .int a3)] [.int t0, .ref 48] X Y) (e167 : ∀ (a2 : Int32) (a3 : Int32) (X : XT) (Y : YT), I167 a2 a3 X Y → V Γ 167 [(0, .ref 48), (2, .int a2), (3, .int a3)] [] X Y) (e168 : ∀ (a2 : Int32) (a3 : Int32) (t0 : Int32) (X : XT) (Y : YT), I168 a2 a3 t0 X Y → V Γ 168 [(0, .ref 48), (2, .int a2), (3, .int a3)] [.int t0] X Y) (e263 : ∀ (a5 : Int32) (X : XT) (Y : YT), I263 a5 X Y → V Γ 263 [(0, .ref 48), (5, .int a5)] [] X Y) (e359 : ∀ (a5 : Int32) (t0 : Int32) (t1 : Int32) (X : XT) (Y : YT), I359 a5 t0 t1 X Y → V Γ 359 [(0, .ref 48), (5, .int a5)] [.int t0, .int t1, .ref 63] X Y) {a2 : Int32} {a3 : Int32} {X : XT} {Y : YT} (h : BX10_page_220 I111 I138 I220 I211 I167 I168 I263 I359 Q a2 a3 X Y) : V Γ 220 [(0, .ref 48), (2, .int a2), (3, .int a3)] [] X Y := by
  refine v_aload_n O dX10_page_220 rfl 0 rfl ?_
  refine v_iconst O dX10_page_221 kc_0 ?_
  refine v_putI O dX10_page_222 fo_X10_118 fp_10_12 sh_48 rfl rfl rfl ?_
  refine v_aload_n O dX10_page_225 rfl 0 rfl ?_
  refine v_get O dX10_page_226 fo_X10_178 sh_48 rfl rfl ?_
  refine v_if_le (tgt := 240) O dX10_page_229 (by decide) (fun g1 => ?_) (fun g1 => ?_)
  · refine v_aload_n O dX10_page_240 rfl 0 rfl ?_
    refine v_get O dX10_page_241 fo_X10_37 sh_48 rfl rfl ?_
    refine v_aload_n O dX10_page_244 rfl 0 rfl ?_
    refine v_get O dX10_page_245 fo_X10_156 sh_48 rfl rfl ?_
    refine v_iload_n O dX10_page_248 rfl 1 rfl ?_
    refine v_iast O dX10_page_249 sh_58 (h.1 g1).1 ?_
    refine v_nmX (fun X2 hX3 => ?_)
    refine v_aload_n O dX10_page_250 rfl 0 rfl ?_
    refine v_get O dX10_page_251 fo_X10_40 sh_48 rfl rfl ?_
    refine v_aload_n O dX10_page_254 rfl 0 rfl ?_
    refine v_get O dX10_page_255 fo_X10_156 sh_48 rfl rfl ?_
    refine v_iload_n O dX10_page_258 rfl 2 rfl ?_
    refine v_iast O dX10_page_259 sh_59 ((h.1 g1).2 X2 hX3).1 ?_
    refine v_iconst O dX10_page_260 kc_0 ?_
    refine v_istore (lv' := [(5, .int 0), (0, .ref 48), (2, .int a2), (3, .int a3)]) O dX10_page_261 (by decide) rfl ?_
    exact v_loc [1, 0] rfl (e263 0 (sX X2 59 (X2 48 13).toNatClampNeg a3) Y ((h.1 g1).2 X2 hX3).2)
  · refine v_bipush O dX10_page_232 kb_m10 ?_
    refine v_aload_n O dX10_page_234 rfl 0 rfl ?_
    refine v_get O dX10_page_235 fo_X10_178 sh_48 rfl rfl ?_
    refine v_isub O dX10_page_238 ?_
    exact v_iret O r dX10_page_239 ⟨_, rfl, (h.2 g1)⟩
set_option maxHeartbeats 4000000 in
set_option maxRecDepth 100000 in
theorem kX10_page_211 {Γ : Cxt} {Q : Int32 → XT → YT → Prop} (O : Ok Γ RX10 cX10_page 6 { frames := 4, cells := 0, slots := 0, locals := 90 }) (r : Ret Γ (some .int) (qI Q)) {I111 : Int32 → XT → YT → Prop} {I138 : Int32 → Int32 → Int32 → XT → YT → Prop} {I220 : Int32 → Int32 → XT → YT → Prop} {I211 : Int32 → Int32 → Int32 → XT → YT → Prop} {I167 : Int32 → Int32 → XT → YT → Prop} {I168 : Int32 → Int32 → Int32 → XT → YT → Prop} {I263 : Int32 → XT → YT → Prop} {I359 : Int32 → Int32 → Int32 → XT → YT → Prop} (e111 : ∀ (a2 : Int32) (X : XT) (Y : YT), I111 a2 X Y → V Γ 111 [(0, .ref 48), (2, .int a2)] [] X Y) (e138 : ∀ (a2 : Int32) (a3 : Int32) (a4 : Int32) (X : XT) (Y : YT), I138 a2 a3 a4 X Y → V Γ 138 [(0, .ref 48), (2, .int a2), (3, .int a3), (4, .int a4)] [] X Y) (e220 : ∀ (a2 : Int32) (a3 : Int32) (X : XT) (Y : YT), I220 a2 a3 X Y → V Γ 220 [(0, .ref 48), (2, .int a2), (3, .int a3)] [] X Y) (e211 : ∀ (a2 : Int32) (a3 : Int32) (t0 : Int32) (X : XT) (Y : YT), I211 a2 a3 t0 X Y → V Γ 211 [(0, .ref 48), (2, .int a2), (3, .int a3)] [.int t0, .ref 48] X Y) (e167 : ∀ (a2 : Int32) (a3 : Int32) (X : XT) (Y : YT), I167 a2 a3 X Y → V Γ 167 [(0, .ref 48), (2, .int a2), (3, .int a3)] [] X Y) (e168 : ∀ (a2 : Int32) (a3 : Int32) (t0 : Int32) (X : XT) (Y : YT), I168 a2 a3 t0 X Y → V Γ 168 [(0, .ref 48), (2, .int a2), (3, .int a3)] [.int t0] X Y) (e263 : ∀ (a5 : Int32) (X : XT) (Y : YT), I263 a5 X Y → V Γ 263 [(0, .ref 48), (5, .int a5)] [] X Y) (e359 : ∀ (a5 : Int32) (t0 : Int32) (t1 : Int32) (X : XT) (Y : YT), I359 a5 t0 t1 X Y → V Γ 359 [(0, .ref 48), (5, .int a5)] [.int t0, .int t1, .ref 63] X Y) {a2 : Int32} {a3 : Int32} {t0 : Int32} {X : XT} {Y : YT} (h : BX10_page_211 I111 I138 I220 I211 I167 I168 I263 I359 Q a2 a3 t0 X Y) : V Γ 211 [(0, .ref 48), (2, .int a2), (3, .int a3)] [.int t0, .ref 48] X Y := by
  refine v_iconst O dX10_page_211 kc_1 ?_
  refine v_aload_n O dX10_page_212 rfl 0 rfl ?_
  refine v_get O dX10_page_213 fo_X10_175 sh_48 rfl rfl ?_
  refine v_callV (rm' := { frames := 0, cells := 0, slots := 0, locals := 0 }) (As := [.int t0, .int 1, .int (X 48 27)]) (st := []) O dX10_page_216 ci_X10_want ml_X10_194 mi_X10_want sh_48 rfl ⟨rfl, rfl, (by decide), (by decide)⟩ rfl (Nat.le_of_ble_eq_true rfl) rfl (mX10_want h) (k_I (fun r1 X2 Y3 h4 => ?_))
  refine v_istore_n (lv' := [(1, .int r1), (0, .ref 48), (2, .int a2), (3, .int a3)]) O dX10_page_219 rfl (by decide) rfl ?_
  exact v_loc [1, 2, 3] rfl (e220 a2 a3 X2 Y3 h4)
set_option maxHeartbeats 4000000 in
set_option maxRecDepth 100000 in
theorem kX10_page_167 {Γ : Cxt} {Q : Int32 → XT → YT → Prop} (O : Ok Γ RX10 cX10_page 6 { frames := 4, cells := 0, slots := 0, locals := 90 }) (r : Ret Γ (some .int) (qI Q)) {I111 : Int32 → XT → YT → Prop} {I138 : Int32 → Int32 → Int32 → XT → YT → Prop} {I220 : Int32 → Int32 → XT → YT → Prop} {I211 : Int32 → Int32 → Int32 → XT → YT → Prop} {I167 : Int32 → Int32 → XT → YT → Prop} {I168 : Int32 → Int32 → Int32 → XT → YT → Prop} {I263 : Int32 → XT → YT → Prop} {I359 : Int32 → Int32 → Int32 → XT → YT → Prop} (e111 : ∀ (a2 : Int32) (X : XT) (Y : YT), I111 a2 X Y → V Γ 111 [(0, .ref 48), (2, .int a2)] [] X Y) (e138 : ∀ (a2 : Int32) (a3 : Int32) (a4 : Int32) (X : XT) (Y : YT), I138 a2 a3 a4 X Y → V Γ 138 [(0, .ref 48), (2, .int a2), (3, .int a3), (4, .int a4)] [] X Y) (e220 : ∀ (a2 : Int32) (a3 : Int32) (X : XT) (Y : YT), I220 a2 a3 X Y → V Γ 220 [(0, .ref 48), (2, .int a2), (3, .int a3)] [] X Y) (e211 : ∀ (a2 : Int32) (a3 : Int32) (t0 : Int32) (X : XT) (Y : YT), I211 a2 a3 t0 X Y → V Γ 211 [(0, .ref 48), (2, .int a2), (3, .int a3)] [.int t0, .ref 48] X Y) (e167 : ∀ (a2 : Int32) (a3 : Int32) (X : XT) (Y : YT), I167 a2 a3 X Y → V Γ 167 [(0, .ref 48), (2, .int a2), (3, .int a3)] [] X Y) (e168 : ∀ (a2 : Int32) (a3 : Int32) (t0 : Int32) (X : XT) (Y : YT), I168 a2 a3 t0 X Y → V Γ 168 [(0, .ref 48), (2, .int a2), (3, .int a3)] [.int t0] X Y) (e263 : ∀ (a5 : Int32) (X : XT) (Y : YT), I263 a5 X Y → V Γ 263 [(0, .ref 48), (5, .int a5)] [] X Y) (e359 : ∀ (a5 : Int32) (t0 : Int32) (t1 : Int32) (X : XT) (Y : YT), I359 a5 t0 t1 X Y → V Γ 359 [(0, .ref 48), (5, .int a5)] [.int t0, .int t1, .ref 63] X Y) {a2 : Int32} {a3 : Int32} {X : XT} {Y : YT} (h : BX10_page_167 I111 I138 I220 I211 I167 I168 I263 I359 Q a2 a3 X Y) : V Γ 167 [(0, .ref 48), (2, .int a2), (3, .int a3)] [] X Y := by
  refine v_iconst O dX10_page_167 kc_0 ?_
  exact v_loc [0, 1, 2] rfl (e168 a2 a3 0 X Y h)
set_option maxHeartbeats 4000000 in
set_option maxRecDepth 100000 in
theorem kX10_page_168 {Γ : Cxt} {Q : Int32 → XT → YT → Prop} (O : Ok Γ RX10 cX10_page 6 { frames := 4, cells := 0, slots := 0, locals := 90 }) (r : Ret Γ (some .int) (qI Q)) {I111 : Int32 → XT → YT → Prop} {I138 : Int32 → Int32 → Int32 → XT → YT → Prop} {I220 : Int32 → Int32 → XT → YT → Prop} {I211 : Int32 → Int32 → Int32 → XT → YT → Prop} {I167 : Int32 → Int32 → XT → YT → Prop} {I168 : Int32 → Int32 → Int32 → XT → YT → Prop} {I263 : Int32 → XT → YT → Prop} {I359 : Int32 → Int32 → Int32 → XT → YT → Prop} (e111 : ∀ (a2 : Int32) (X : XT) (Y : YT), I111 a2 X Y → V Γ 111 [(0, .ref 48), (2, .int a2)] [] X Y) (e138 : ∀ (a2 : Int32) (a3 : Int32) (a4 : Int32) (X : XT) (Y : YT), I138 a2 a3 a4 X Y → V Γ 138 [(0, .ref 48), (2, .int a2), (3, .int a3), (4, .int a4)] [] X Y) (e220 : ∀ (a2 : Int32) (a3 : Int32) (X : XT) (Y : YT), I220 a2 a3 X Y → V Γ 220 [(0, .ref 48), (2, .int a2), (3, .int a3)] [] X Y) (e211 : ∀ (a2 : Int32) (a3 : Int32) (t0 : Int32) (X : XT) (Y : YT), I211 a2 a3 t0 X Y → V Γ 211 [(0, .ref 48), (2, .int a2), (3, .int a3)] [.int t0, .ref 48] X Y) (e167 : ∀ (a2 : Int32) (a3 : Int32) (X : XT) (Y : YT), I167 a2 a3 X Y → V Γ 167 [(0, .ref 48), (2, .int a2), (3, .int a3)] [] X Y) (e168 : ∀ (a2 : Int32) (a3 : Int32) (t0 : Int32) (X : XT) (Y : YT), I168 a2 a3 t0 X Y → V Γ 168 [(0, .ref 48), (2, .int a2), (3, .int a3)] [.int t0] X Y) (e263 : ∀ (a5 : Int32) (X : XT) (Y : YT), I263 a5 X Y → V Γ 263 [(0, .ref 48), (5, .int a5)] [] X Y) (e359 : ∀ (a5 : Int32) (t0 : Int32) (t1 : Int32) (X : XT) (Y : YT), I359 a5 t0 t1 X Y → V Γ 359 [(0, .ref 48), (5, .int a5)] [.int t0, .int t1, .ref 63] X Y) {a2 : Int32} {a3 : Int32} {t0 : Int32} {X : XT} {Y : YT} (h : BX10_page_168 I111 I138 I220 I211 I167 I168 I263 I359 Q a2 a3 t0 X Y) : V Γ 168 [(0, .ref 48), (2, .int a2), (3, .int a3)] [.int t0] X Y := by
  refine v_istore (lv' := [(4, .int t0), (0, .ref 48), (2, .int a2), (3, .int a3)]) O dX10_page_168 (by decide) rfl ?_
  refine v_aload_n O dX10_page_170 rfl 1 rfl ?_
  refine v_dup O dX10_page_171 rfl ?_
  refine v_get O dX10_page_172 fo_X10_175 sh_48 rfl rfl ?_
  refine v_iload O dX10_page_175 0 rfl ?_
  refine v_callS (rm' := { frames := 0, cells := 0, slots := 0, locals := 0 }) (As := [.int t0]) (st := [.int (X 48 27), .ref 48]) O dX10_page_177 ci_X10_one ml_X10_198 ms_X10_one ⟨rfl, rfl, (by decide), (by decide)⟩ rfl (Nat.le_of_ble_eq_true rfl) rfl (mX10_one h) (k_I (fun r1 X2 Y3 h4 => ?_))
  refine v_iadd O dX10_page_180 ?_
  refine v_putI O dX10_page_181 fo_X10_175 fp_10_27 sh_48 rfl rfl rfl ?_
  refine v_goto O dX10_page_184 (tgt := 138) (by decide) ?_
  exact v_loc [1, 2, 3, 0] rfl (e138 a2 a3 t0 (sX X2 48 27 ((X 48 27) + r1)) Y3 h4)
set_option maxHeartbeats 4000000 in
set_option maxRecDepth 100000 in
theorem kX10_page_263 {Γ : Cxt} {Q : Int32 → XT → YT → Prop} (O : Ok Γ RX10 cX10_page 6 { frames := 4, cells := 0, slots := 0, locals := 90 }) (r : Ret Γ (some .int) (qI Q)) {I111 : Int32 → XT → YT → Prop} {I138 : Int32 → Int32 → Int32 → XT → YT → Prop} {I220 : Int32 → Int32 → XT → YT → Prop} {I211 : Int32 → Int32 → Int32 → XT → YT → Prop} {I167 : Int32 → Int32 → XT → YT → Prop} {I168 : Int32 → Int32 → Int32 → XT → YT → Prop} {I263 : Int32 → XT → YT → Prop} {I359 : Int32 → Int32 → Int32 → XT → YT → Prop} (e111 : ∀ (a2 : Int32) (X : XT) (Y : YT), I111 a2 X Y → V Γ 111 [(0, .ref 48), (2, .int a2)] [] X Y) (e138 : ∀ (a2 : Int32) (a3 : Int32) (a4 : Int32) (X : XT) (Y : YT), I138 a2 a3 a4 X Y → V Γ 138 [(0, .ref 48), (2, .int a2), (3, .int a3), (4, .int a4)] [] X Y) (e220 : ∀ (a2 : Int32) (a3 : Int32) (X : XT) (Y : YT), I220 a2 a3 X Y → V Γ 220 [(0, .ref 48), (2, .int a2), (3, .int a3)] [] X Y) (e211 : ∀ (a2 : Int32) (a3 : Int32) (t0 : Int32) (X : XT) (Y : YT), I211 a2 a3 t0 X Y → V Γ 211 [(0, .ref 48), (2, .int a2), (3, .int a3)] [.int t0, .ref 48] X Y) (e167 : ∀ (a2 : Int32) (a3 : Int32) (X : XT) (Y : YT), I167 a2 a3 X Y → V Γ 167 [(0, .ref 48), (2, .int a2), (3, .int a3)] [] X Y) (e168 : ∀ (a2 : Int32) (a3 : Int32) (t0 : Int32) (X : XT) (Y : YT), I168 a2 a3 t0 X Y → V Γ 168 [(0, .ref 48), (2, .int a2), (3, .int a3)] [.int t0] X Y) (e263 : ∀ (a5 : Int32) (X : XT) (Y : YT), I263 a5 X Y → V Γ 263 [(0, .ref 48), (5, .int a5)] [] X Y) (e359 : ∀ (a5 : Int32) (t0 : Int32) (t1 : Int32) (X : XT) (Y : YT), I359 a5 t0 t1 X Y → V Γ 359 [(0, .ref 48), (5, .int a5)] [.int t0, .int t1, .ref 63] X Y) {a5 : Int32} {X : XT} {Y : YT} (h : BX10_page_263 I111 I138 I220 I211 I167 I168 I263 I359 Q a5 X Y) : V Γ 263 [(0, .ref 48), (5, .int a5)] [] X Y := by
  refine v_iload O dX10_page_263 1 rfl ?_
  refine v_aload_n O dX10_page_265 rfl 0 rfl ?_
  refine v_get O dX10_page_266 fo_X10_205 sh_48 rfl rfl ?_
  refine v_icmp_ge (tgt := 409) O dX10_page_269 (by decide) (fun g1 => ?_) (fun g1 => ?_)
  · refine v_aload_n O dX10_page_409 rfl 0 rfl ?_
    refine v_dup O dX10_page_410 rfl ?_
    refine v_get O dX10_page_411 fo_X10_156 sh_48 rfl rfl ?_
    refine v_iconst O dX10_page_414 kc_1 ?_
    refine v_iadd O dX10_page_415 ?_
    refine v_putI O dX10_page_416 fo_X10_156 fp_10_13 sh_48 rfl rfl rfl ?_
    refine v_aload_n O dX10_page_419 rfl 0 rfl ?_
    refine v_get O dX10_page_420 fo_X10_156 sh_48 rfl rfl ?_
    refine v_iconst O dX10_page_423 kc_1 ?_
    refine v_isub O dX10_page_424 ?_
    exact v_iret O r dX10_page_425 ⟨_, rfl, (h.1 g1)⟩
  · refine v_aload_n O dX10_page_272 rfl 0 rfl ?_
    refine v_get O dX10_page_273 fo_X10_43 sh_48 rfl rfl ?_
    refine v_aload_n O dX10_page_276 rfl 0 rfl ?_
    refine v_get O dX10_page_277 fo_X10_159 sh_48 rfl rfl ?_
    refine v_aload_n O dX10_page_280 rfl 0 rfl ?_
    refine v_get O dX10_page_281 fo_X10_156 sh_48 rfl rfl ?_
    refine v_iast O dX10_page_284 sh_60 (h.2 g1).1 ?_
    refine v_nmX (fun X2 hX3 => ?_)
    refine v_aload_n O dX10_page_285 rfl 0 rfl ?_
    refine v_get O dX10_page_286 fo_X10_46 sh_48 rfl rfl ?_
    refine v_aload_n O dX10_page_289 rfl 0 rfl ?_
    refine v_get O dX10_page_290 fo_X10_159 sh_48 rfl rfl ?_
    refine v_aload_n O dX10_page_293 rfl 0 rfl ?_
    refine v_get O dX10_page_294 fo_X10_71 sh_48 rfl rfl ?_
    refine v_iload O dX10_page_297 1 rfl ?_
    refine v_iald O dX10_page_299 sh_68 ((h.2 g1).2 X2 hX3).1 ?_
    refine v_iast O dX10_page_300 sh_61 ((h.2 g1).2 X2 hX3).2.1 ?_
    refine v_nmX (fun X4 hX5 => ?_)
    refine v_aload_n O dX10_page_301 rfl 0 rfl ?_
    refine v_get O dX10_page_302 fo_X10_49 sh_48 rfl rfl ?_
    refine v_aload_n O dX10_page_305 rfl 0 rfl ?_
    refine v_get O dX10_page_306 fo_X10_159 sh_48 rfl rfl ?_
    refine v_aload_n O dX10_page_309 rfl 0 rfl ?_
    refine v_get O dX10_page_310 fo_X10_74 sh_48 rfl rfl ?_
    refine v_iload O dX10_page_313 1 rfl ?_
    refine v_iald O dX10_page_315 sh_69 (((h.2 g1).2 X2 hX3).2.2 X4 hX5).1 ?_
    refine v_iast O dX10_page_316 sh_62 (((h.2 g1).2 X2 hX3).2.2 X4 hX5).2.1 ?_
    refine v_nmX (fun X6 hX7 => ?_)
    refine v_aload_n O dX10_page_317 rfl 0 rfl ?_
    refine v_get O dX10_page_318 fo_X10_55 sh_48 rfl rfl ?_
    refine v_aload_n O dX10_page_321 rfl 0 rfl ?_
    refine v_get O dX10_page_322 fo_X10_159 sh_48 rfl rfl ?_
    refine v_aload_n O dX10_page_325 rfl 0 rfl ?_
    refine v_get O dX10_page_326 fo_X10_77 sh_48 rfl rfl ?_
    refine v_iload O dX10_page_329 1 rfl ?_
    refine v_iald O dX10_page_331 sh_70 ((((h.2 g1).2 X2 hX3).2.2 X4 hX5).2.2 X6 hX7).1 ?_
    refine v_iast O dX10_page_332 sh_64 ((((h.2 g1).2 X2 hX3).2.2 X4 hX5).2.2 X6 hX7).2.1 ?_
    refine v_nmX (fun X8 hX9 => ?_)
    refine v_aload_n O dX10_page_333 rfl 0 rfl ?_
    refine v_get O dX10_page_334 fo_X10_52 sh_48 rfl rfl ?_
    refine v_aload_n O dX10_page_337 rfl 0 rfl ?_
    refine v_get O dX10_page_338 fo_X10_159 sh_48 rfl rfl ?_
    refine v_aload_n O dX10_page_341 rfl 0 rfl ?_
    refine v_get O dX10_page_342 fo_X10_74 sh_48 rfl rfl ?_
    refine v_iload O dX10_page_345 1 rfl ?_
    refine v_iald O dX10_page_347 sh_69 (((((h.2 g1).2 X2 hX3).2.2 X4 hX5).2.2 X6 hX7).2.2 X8 hX9).1 ?_
    refine v_if_ge (tgt := 358) O dX10_page_348 (by decide) (fun g10 => ?_) (fun g10 => ?_)
    · refine v_iconst O dX10_page_358 kc_m1 ?_
      exact v_loc [0, 1] rfl (e359 a5 (-1) (X8 48 16) X8 Y ((((((h.2 g1).2 X2 hX3).2.2 X4 hX5).2.2 X6 hX7).2.2 X8 hX9).2.1 g10))
    · refine v_aload_n O dX10_page_351 rfl 0 rfl ?_
      refine v_get O dX10_page_352 fo_X10_162 sh_48 rfl rfl ?_
      refine v_goto O dX10_page_355 (tgt := 359) (by decide) ?_
      exact v_loc [0, 1] rfl (e359 a5 (X8 48 22) (X8 48 16) X8 Y ((((((h.2 g1).2 X2 hX3).2.2 X4 hX5).2.2 X6 hX7).2.2 X8 hX9).2.2 g10))
set_option maxHeartbeats 4000000 in
set_option maxRecDepth 100000 in
theorem kX10_page_359 {Γ : Cxt} {Q : Int32 → XT → YT → Prop} (O : Ok Γ RX10 cX10_page 6 { frames := 4, cells := 0, slots := 0, locals := 90 }) (r : Ret Γ (some .int) (qI Q)) {I111 : Int32 → XT → YT → Prop} {I138 : Int32 → Int32 → Int32 → XT → YT → Prop} {I220 : Int32 → Int32 → XT → YT → Prop} {I211 : Int32 → Int32 → Int32 → XT → YT → Prop} {I167 : Int32 → Int32 → XT → YT → Prop} {I168 : Int32 → Int32 → Int32 → XT → YT → Prop} {I263 : Int32 → XT → YT → Prop} {I359 : Int32 → Int32 → Int32 → XT → YT → Prop} (e111 : ∀ (a2 : Int32) (X : XT) (Y : YT), I111 a2 X Y → V Γ 111 [(0, .ref 48), (2, .int a2)] [] X Y) (e138 : ∀ (a2 : Int32) (a3 : Int32) (a4 : Int32) (X : XT) (Y : YT), I138 a2 a3 a4 X Y → V Γ 138 [(0, .ref 48), (2, .int a2), (3, .int a3), (4, .int a4)] [] X Y) (e220 : ∀ (a2 : Int32) (a3 : Int32) (X : XT) (Y : YT), I220 a2 a3 X Y → V Γ 220 [(0, .ref 48), (2, .int a2), (3, .int a3)] [] X Y) (e211 : ∀ (a2 : Int32) (a3 : Int32) (t0 : Int32) (X : XT) (Y : YT), I211 a2 a3 t0 X Y → V Γ 211 [(0, .ref 48), (2, .int a2), (3, .int a3)] [.int t0, .ref 48] X Y) (e167 : ∀ (a2 : Int32) (a3 : Int32) (X : XT) (Y : YT), I167 a2 a3 X Y → V Γ 167 [(0, .ref 48), (2, .int a2), (3, .int a3)] [] X Y) (e168 : ∀ (a2 : Int32) (a3 : Int32) (t0 : Int32) (X : XT) (Y : YT), I168 a2 a3 t0 X Y → V Γ 168 [(0, .ref 48), (2, .int a2), (3, .int a3)] [.int t0] X Y) (e263 : ∀ (a5 : Int32) (X : XT) (Y : YT), I263 a5 X Y → V Γ 263 [(0, .ref 48), (5, .int a5)] [] X Y) (e359 : ∀ (a5 : Int32) (t0 : Int32) (t1 : Int32) (X : XT) (Y : YT), I359 a5 t0 t1 X Y → V Γ 359 [(0, .ref 48), (5, .int a5)] [.int t0, .int t1, .ref 63] X Y) {a5 : Int32} {t0 : Int32} {t1 : Int32} {X : XT} {Y : YT} (h : BX10_page_359 I111 I138 I220 I211 I167 I168 I263 I359 Q a5 t0 t1 X Y) : V Γ 359 [(0, .ref 48), (5, .int a5)] [.int t0, .int t1, .ref 63] X Y := by
  refine v_iast O dX10_page_359 sh_63 h.1 ?_
  refine v_aload_n O dX10_page_360 rfl 0 rfl ?_
  refine v_get O dX10_page_361 fo_X10_74 sh_48 rfl rfl ?_
  refine v_iload O dX10_page_364 1 rfl ?_
  refine v_iald O dX10_page_366 sh_69 h.2.1 ?_
  refine v_if_ge (tgt := 393) O dX10_page_367 (by decide) (fun g1 => ?_) (fun g1 => ?_)
  · refine v_aload_n O dX10_page_393 rfl 0 rfl ?_
    refine v_dup O dX10_page_394 rfl ?_
    refine v_get O dX10_page_395 fo_X10_159 sh_48 rfl rfl ?_
    refine v_iconst O dX10_page_398 kc_1 ?_
    refine v_iadd O dX10_page_399 ?_
    refine v_putI O dX10_page_400 fo_X10_159 fp_10_16 sh_48 rfl rfl rfl ?_
    refine v_nmX (fun X2 hX3 => ?_)
    obtain ⟨w4, hw5⟩ : ∃ y : Int32, y = a5 + 1 := ⟨_, rfl⟩
    refine v_iinc (v := w4) (j := 1) O dX10_page_403 rfl (by rw [hw5]; exact congrArg _ kc_1) (by decide) (lv' := [(5, .int w4), (0, .ref 48)]) rfl ?_
    refine v_goto O dX10_page_406 (tgt := 263) (by decide) ?_
    exact v_loc [1, 0] rfl (e263 w4 X2 Y (((h.2.2.1 g1) X2 hX3) w4 hw5))
  · refine v_aload_n O dX10_page_370 rfl 0 rfl ?_
    refine v_get O dX10_page_371 fo_X10_58 sh_48 rfl rfl ?_
    refine v_aload_n O dX10_page_374 rfl 0 rfl ?_
    refine v_get O dX10_page_375 fo_X10_162 sh_48 rfl rfl ?_
    refine v_aload_n O dX10_page_378 rfl 0 rfl ?_
    refine v_get O dX10_page_379 fo_X10_159 sh_48 rfl rfl ?_
    refine v_iast O dX10_page_382 sh_65 (h.2.2.2 g1).1 ?_
    refine v_nmX (fun X6 hX7 => ?_)
    refine v_aload_n O dX10_page_383 rfl 0 rfl ?_
    refine v_dup O dX10_page_384 rfl ?_
    refine v_get O dX10_page_385 fo_X10_162 sh_48 rfl rfl ?_
    refine v_iconst O dX10_page_388 kc_1 ?_
    refine v_iadd O dX10_page_389 ?_
    refine v_putI O dX10_page_390 fo_X10_162 fp_10_22 sh_48 rfl rfl rfl ?_
    refine v_aload_n O dX10_page_393 rfl 0 rfl ?_
    refine v_dup O dX10_page_394 rfl ?_
    refine v_get O dX10_page_395 fo_X10_159 sh_48 rfl rfl ?_
    refine v_iconst O dX10_page_398 kc_1 ?_
    refine v_iadd O dX10_page_399 ?_
    refine v_putI O dX10_page_400 fo_X10_159 fp_10_16 sh_48 rfl rfl rfl ?_
    refine v_nmX (fun X8 hX9 => ?_)
    obtain ⟨w10, hw11⟩ : ∃ y : Int32, y = a5 + 1 := ⟨_, rfl⟩
    refine v_iinc (v := w10) (j := 1) O dX10_page_403 rfl (by rw [hw11]; exact congrArg _ kc_1) (by decide) (lv' := [(5, .int w10), (0, .ref 48)]) rfl ?_
    refine v_goto O dX10_page_406 (tgt := 263) (by decide) ?_
    exact v_loc [1, 0] rfl (e263 w10 X8 Y ((((h.2.2.2 g1).2 X6 hX7) X8 hX9) w10 hw11))
set_option maxHeartbeats 4000000 in
set_option maxRecDepth 100000 in
theorem kX10_page_s {Γ : Cxt} {Q : Int32 → XT → YT → Prop} (O : Ok Γ RX10 cX10_page 6 { frames := 4, cells := 0, slots := 0, locals := 90 }) (r : Ret Γ (some .int) (qI Q)) {I111 : Int32 → XT → YT → Prop} {I138 : Int32 → Int32 → Int32 → XT → YT → Prop} {I220 : Int32 → Int32 → XT → YT → Prop} {I211 : Int32 → Int32 → Int32 → XT → YT → Prop} {I167 : Int32 → Int32 → XT → YT → Prop} {I168 : Int32 → Int32 → Int32 → XT → YT → Prop} {I263 : Int32 → XT → YT → Prop} {I359 : Int32 → Int32 → Int32 → XT → YT → Prop} (e111 : ∀ (a2 : Int32) (X : XT) (Y : YT), I111 a2 X Y → V Γ 111 [(0, .ref 48), (2, .int a2)] [] X Y) (e138 : ∀ (a2 : Int32) (a3 : Int32) (a4 : Int32) (X : XT) (Y : YT), I138 a2 a3 a4 X Y → V Γ 138 [(0, .ref 48), (2, .int a2), (3, .int a3), (4, .int a4)] [] X Y) (e220 : ∀ (a2 : Int32) (a3 : Int32) (X : XT) (Y : YT), I220 a2 a3 X Y → V Γ 220 [(0, .ref 48), (2, .int a2), (3, .int a3)] [] X Y) (e211 : ∀ (a2 : Int32) (a3 : Int32) (t0 : Int32) (X : XT) (Y : YT), I211 a2 a3 t0 X Y → V Γ 211 [(0, .ref 48), (2, .int a2), (3, .int a3)] [.int t0, .ref 48] X Y) (e167 : ∀ (a2 : Int32) (a3 : Int32) (X : XT) (Y : YT), I167 a2 a3 X Y → V Γ 167 [(0, .ref 48), (2, .int a2), (3, .int a3)] [] X Y) (e168 : ∀ (a2 : Int32) (a3 : Int32) (t0 : Int32) (X : XT) (Y : YT), I168 a2 a3 t0 X Y → V Γ 168 [(0, .ref 48), (2, .int a2), (3, .int a3)] [.int t0] X Y) (e263 : ∀ (a5 : Int32) (X : XT) (Y : YT), I263 a5 X Y → V Γ 263 [(0, .ref 48), (5, .int a5)] [] X Y) (e359 : ∀ (a5 : Int32) (t0 : Int32) (t1 : Int32) (X : XT) (Y : YT), I359 a5 t0 t1 X Y → V Γ 359 [(0, .ref 48), (5, .int a5)] [.int t0, .int t1, .ref 63] X Y) {X : XT} {Y : YT} (h : BX10_page_s I111 I138 I220 I211 I167 I168 I263 I359 Q X Y) : V Γ 0 [(0, .ref 48)] [] X Y := by
  refine v_aload_n O dX10_page_0 rfl 0 rfl ?_
  refine v_get O dX10_page_1 fo_X10_156 sh_48 rfl rfl ?_
  refine v_bipush O dX10_page_4 kb_8 ?_
  refine v_icmp_ne (tgt := 13) O dX10_page_6 (by decide) (fun g1 => ?_) (fun g1 => ?_)
  · refine v_aload_n O dX10_page_13 rfl 0 rfl ?_
    refine v_iconst O dX10_page_14 kc_0 ?_
    refine v_putI O dX10_page_15 fo_X10_175 fp_10_27 sh_48 rfl rfl rfl ?_
    refine v_aload_n O dX10_page_18 rfl 0 rfl ?_
    refine v_iconst O dX10_page_19 kc_0 ?_
    refine v_putI O dX10_page_20 fo_X10_178 fp_10_30 sh_48 rfl rfl rfl ?_
    refine v_aload_n O dX10_page_23 rfl 0 rfl ?_
    refine v_iconst O dX10_page_24 kc_m1 ?_
    refine v_putI O dX10_page_25 fo_X10_67 fp_10_31 sh_48 rfl rfl rfl ?_
    refine v_nmX (fun X2 hX3 => ?_)
    refine v_aload_n O dX10_page_28 rfl 0 rfl ?_
    refine v_iconst O dX10_page_29 kc_0 ?_
    refine v_putI O dX10_page_30 fo_X10_205 fp_10_32 sh_48 rfl rfl rfl ?_
    refine v_aload_n O dX10_page_33 rfl 0 rfl ?_
    refine v_iconst O dX10_page_34 kc_0 ?_
    refine v_putI O dX10_page_35 fo_X10_215 fp_10_33 sh_48 rfl rfl rfl ?_
    refine v_aload_n O dX10_page_38 rfl 0 rfl ?_
    refine v_callV (rm' := { frames := 1, cells := 0, slots := 0, locals := 25 }) (As := []) (st := []) O dX10_page_39 ci_X10_takeWord ml_X10_202 mi_X10_takeWord sh_48 rfl ⟨rfl, rfl, (by decide), (by decide)⟩ rfl (Nat.le_of_ble_eq_true rfl) rfl (mX10_takeWord ((h.1 g1) X2 hX3)) (k_V (fun X5 Y6 h7 => ?_))
    refine v_aload_n O dX10_page_42 rfl 0 rfl ?_
    refine v_aload_n O dX10_page_43 rfl 0 rfl ?_
    refine v_iconst O dX10_page_44 kc_3 ?_
    refine v_bipush O dX10_page_45 kb_100 ?_
    refine v_bipush O dX10_page_47 kb_97 ?_
    refine v_bipush O dX10_page_49 kb_121 ?_
    refine v_iconst O dX10_page_51 kc_0 ?_
    refine v_iconst O dX10_page_52 kc_0 ?_
    refine v_iconst O dX10_page_53 kc_0 ?_
    refine v_callV (rm' := { frames := 0, cells := 0, slots := 0, locals := 0 }) (As := [.int 3, .int 100, .int 97, .int 121, .int 0, .int 0, .int 0]) (st := [.ref 48]) O dX10_page_54 ci_X10_isWord ml_X10_208 mi_X10_isWord sh_48 rfl ⟨rfl, rfl, (by decide), (by decide)⟩ rfl (Nat.le_of_ble_eq_true rfl) rfl (mX10_isWord h7) (k_I (fun r8 X9 Y10 h11 => ?_))
    refine v_iconst O dX10_page_57 kc_1 ?_
    refine v_aload_n O dX10_page_58 rfl 0 rfl ?_
    refine v_get O dX10_page_59 fo_X10_184 sh_48 rfl rfl ?_
    refine v_callV (rm' := { frames := 0, cells := 0, slots := 0, locals := 0 }) (As := [.int r8, .int 1, .int (X9 48 28)]) (st := []) O dX10_page_62 ci_X10_want ml_X10_194 mi_X10_want sh_48 rfl ⟨rfl, rfl, (by decide), (by decide)⟩ rfl (Nat.le_of_ble_eq_true rfl) rfl (mX10_want h11) (k_I (fun r12 X13 Y14 h15 => ?_))
    refine v_istore_n (lv' := [(1, .int r12), (0, .ref 48)]) O dX10_page_65 rfl (by decide) rfl ?_
    refine v_aload_n O dX10_page_66 rfl 1 rfl ?_
    refine v_iconst O dX10_page_67 kc_0 ?_
    refine v_bipush O dX10_page_68 kb_99 ?_
    refine v_callV (rm' := { frames := 1, cells := 0, slots := 0, locals := 25 }) (As := [.int 0, .int 99]) (st := []) O dX10_page_70 ci_X10_takeNumber ml_X10_212 mi_X10_takeNumber sh_48 rfl ⟨rfl, rfl, (by decide), (by decide)⟩ rfl (Nat.le_of_ble_eq_true rfl) rfl (mX10_takeNumber h15) (k_I (fun r16 X17 Y18 h19 => ?_))
    refine v_istore_n (lv' := [(2, .int r16), (1, .int r12), (0, .ref 48)]) O dX10_page_73 rfl (by decide) rfl ?_
    refine v_aload_n O dX10_page_74 rfl 2 rfl ?_
    refine v_get O dX10_page_75 fo_X10_178 sh_48 rfl rfl ?_
    refine v_if_ne (tgt := 111) O dX10_page_78 (by decide) (fun g20 => ?_) (fun g20 => ?_)
    · exact v_loc [2, 0] rfl (e111 r16 X17 Y18 (h19.1 g20))
    · refine v_aload_n O dX10_page_81 rfl 2 rfl ?_
      refine v_callV (rm' := { frames := 1, cells := 0, slots := 0, locals := 25 }) (As := []) (st := []) O dX10_page_82 ci_X10_takeWord ml_X10_202 mi_X10_takeWord sh_48 rfl ⟨rfl, rfl, (by decide), (by decide)⟩ rfl (Nat.le_of_ble_eq_true rfl) rfl (mX10_takeWord (h19.2 g20)) (k_V (fun X22 Y23 h24 => ?_))
      refine v_aload_n O dX10_page_85 rfl 2 rfl ?_
      refine v_aload_n O dX10_page_86 rfl 2 rfl ?_
      refine v_iconst O dX10_page_87 kc_5 ?_
      refine v_bipush O dX10_page_88 kb_102 ?_
      refine v_bipush O dX10_page_90 kb_111 ?_
      refine v_bipush O dX10_page_92 kb_117 ?_
      refine v_bipush O dX10_page_94 kb_110 ?_
      refine v_bipush O dX10_page_96 kb_116 ?_
      refine v_iconst O dX10_page_98 kc_0 ?_
      refine v_callV (rm' := { frames := 0, cells := 0, slots := 0, locals := 0 }) (As := [.int 5, .int 102, .int 111, .int 117, .int 110, .int 116, .int 0]) (st := [.ref 48]) O dX10_page_99 ci_X10_isWord ml_X10_208 mi_X10_isWord sh_48 rfl ⟨rfl, rfl, (by decide), (by decide)⟩ rfl (Nat.le_of_ble_eq_true rfl) rfl (mX10_isWord h24) (k_I (fun r25 X26 Y27 h28 => ?_))
      refine v_iconst O dX10_page_102 kc_1 ?_
      refine v_aload_n O dX10_page_103 rfl 2 rfl ?_
      refine v_get O dX10_page_104 fo_X10_184 sh_48 rfl rfl ?_
      refine v_callV (rm' := { frames := 0, cells := 0, slots := 0, locals := 0 }) (As := [.int r25, .int 1, .int (X26 48 28)]) (st := []) O dX10_page_107 ci_X10_want ml_X10_194 mi_X10_want sh_48 rfl ⟨rfl, rfl, (by decide), (by decide)⟩ rfl (Nat.le_of_ble_eq_true rfl) rfl (mX10_want h28) (k_I (fun r29 X30 Y31 h32 => ?_))
      refine v_istore_n (lv' := [(1, .int r29), (2, .int r16), (0, .ref 48)]) O dX10_page_110 rfl (by decide) rfl ?_
      exact v_loc [2, 1] rfl (e111 r16 X30 Y31 h32)
  · refine v_sipush O dX10_page_9 ks_m1004 ?_
    exact v_iret O r dX10_page_12 ⟨_, rfl, (h.2 g1)⟩
set_option maxRecDepth 100000 in
theorem mX10_page {Γ : Cxt} {X : XT} {Y : YT} {Q : Int32 → XT → YT → Prop} (h : PX10_page X Y Q) : MT Γ yX10_page (.code yX10_page cX10_page 6 (some .int) :: wl) { frames := 4, cells := 0, slots := 0, locals := 90 } [.ref 48] X Y (qI Q) :=
  mt_of (by decide) (Nat.le_of_ble_eq_true rfl) (fun Γ _ O r => kX10_page_s O r (fun _ _ _ g => g) (fun _ _ _ _ _ g => g) (fun _ _ _ _ g => g) (fun _ _ _ _ _ g => g) (fun _ _ _ _ g => g) (fun _ _ _ _ _ g => g) (fun _ _ _ g => g) (fun _ _ _ _ _ g => g) (h (fun a2 X Y => V Γ 111 [(0, .ref 48), (2, .int a2)] [] X Y) (fun a2 a3 a4 X Y => V Γ 138 [(0, .ref 48), (2, .int a2), (3, .int a3), (4, .int a4)] [] X Y) (fun a2 a3 X Y => V Γ 220 [(0, .ref 48), (2, .int a2), (3, .int a3)] [] X Y) (fun a2 a3 t0 X Y => V Γ 211 [(0, .ref 48), (2, .int a2), (3, .int a3)] [.int t0, .ref 48] X Y) (fun a2 a3 X Y => V Γ 167 [(0, .ref 48), (2, .int a2), (3, .int a3)] [] X Y) (fun a2 a3 t0 X Y => V Γ 168 [(0, .ref 48), (2, .int a2), (3, .int a3)] [.int t0] X Y) (fun a5 X Y => V Γ 263 [(0, .ref 48), (5, .int a5)] [] X Y) (fun a5 t0 t1 X Y => V Γ 359 [(0, .ref 48), (5, .int a5)] [.int t0, .int t1, .ref 63] X Y) (fun _ _ _ g => kX10_page_111 O r (fun _ _ _ g => g) (fun _ _ _ _ _ g => g) (fun _ _ _ _ g => g) (fun _ _ _ _ _ g => g) (fun _ _ _ _ g => g) (fun _ _ _ _ _ g => g) (fun _ _ _ g => g) (fun _ _ _ _ _ g => g) g) (fun _ _ _ _ _ g => kX10_page_138 O r (fun _ _ _ g => g) (fun _ _ _ _ _ g => g) (fun _ _ _ _ g => g) (fun _ _ _ _ _ g => g) (fun _ _ _ _ g => g) (fun _ _ _ _ _ g => g) (fun _ _ _ g => g) (fun _ _ _ _ _ g => g) g) (fun _ _ _ _ g => kX10_page_220 O r (fun _ _ _ g => g) (fun _ _ _ _ _ g => g) (fun _ _ _ _ g => g) (fun _ _ _ _ _ g => g) (fun _ _ _ _ g => g) (fun _ _ _ _ _ g => g) (fun _ _ _ g => g) (fun _ _ _ _ _ g => g) g) (fun _ _ _ _ _ g => kX10_page_211 O r (fun _ _ _ g => g) (fun _ _ _ _ _ g => g) (fun _ _ _ _ g => g) (fun _ _ _ _ _ g => g) (fun _ _ _ _ g => g) (fun _ _ _ _ _ g => g) (fun _ _ _ g => g) (fun _ _ _ _ _ g => g) g) (fun _ _ _ _ g => kX10_page_167 O r (fun _ _ _ g => g) (fun _ _ _ _ _ g => g) (fun _ _ _ _ g => g) (fun _ _ _ _ _ g => g) (fun _ _ _ _ g => g) (fun _ _ _ _ _ g => g) (fun _ _ _ g => g) (fun _ _ _ _ _ g => g) g) (fun _ _ _ _ _ g => kX10_page_168 O r (fun _ _ _ g => g) (fun _ _ _ _ _ g => g) (fun _ _ _ _ g => g) (fun _ _ _ _ _ g => g) (fun _ _ _ _ g => g) (fun _ _ _ _ _ g => g) (fun _ _ _ g => g) (fun _ _ _ _ _ g => g) g) (fun _ _ _ g => kX10_page_263 O r (fun _ _ _ g => g) (fun _ _ _ _ _ g => g) (fun _ _ _ _ g => g) (fun _ _ _ _ _ g => g) (fun _ _ _ _ g => g) (fun _ _ _ _ _ g => g) (fun _ _ _ g => g) (fun _ _ _ _ _ g => g) g) (fun _ _ _ _ _ g => kX10_page_359 O r (fun _ _ _ g => g) (fun _ _ _ _ _ g => g) (fun _ _ _ _ g => g) (fun _ _ _ _ _ g => g) (fun _ _ _ _ g => g) (fun _ _ _ _ _ g => g) (fun _ _ _ g => g) (fun _ _ _ _ _ g => g) g)))
