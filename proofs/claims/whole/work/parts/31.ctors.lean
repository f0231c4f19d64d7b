theorem ff_8_0 : FF 8 0 (.array .int) := ⟨RX8, TX8, 2, tyX8, rfl, tyX8_ok, nmX8, rfl, by decide +kernel, rfl⟩
theorem ff_9_0 : FF 9 0 (.object "UnderBars$Text") := ⟨RX9, TX9, 11, tyX9, rfl, tyX9_ok, nmX9, rfl, by decide +kernel, rfl⟩
theorem ff_1_0 : FF 1 0 (.array .int) := ⟨RX1, TX1, 10, tyX1, rfl, tyX1_ok, nmX1, rfl, by decide +kernel, rfl⟩
theorem ff_1_1 : FF 1 1 (.array .int) := ⟨RX1, TX1, 10, tyX1, rfl, tyX1_ok, nmX1, rfl, by decide +kernel, rfl⟩
theorem ff_1_2 : FF 1 2 (.array .int) := ⟨RX1, TX1, 10, tyX1, rfl, tyX1_ok, nmX1, rfl, by decide +kernel, rfl⟩
theorem ff_1_3 : FF 1 3 (.array .int) := ⟨RX1, TX1, 10, tyX1, rfl, tyX1_ok, nmX1, rfl, by decide +kernel, rfl⟩
theorem ff_1_4 : FF 1 4 (.array .int) := ⟨RX1, TX1, 10, tyX1, rfl, tyX1_ok, nmX1, rfl, by decide +kernel, rfl⟩
theorem ff_1_5 : FF 1 5 (.array .int) := ⟨RX1, TX1, 10, tyX1, rfl, tyX1_ok, nmX1, rfl, by decide +kernel, rfl⟩
theorem ff_1_6 : FF 1 6 (.array .int) := ⟨RX1, TX1, 10, tyX1, rfl, tyX1_ok, nmX1, rfl, by decide +kernel, rfl⟩
theorem ff_1_7 : FF 1 7 (.array .int) := ⟨RX1, TX1, 10, tyX1, rfl, tyX1_ok, nmX1, rfl, by decide +kernel, rfl⟩
theorem ff_1_8 : FF 1 8 (.array .int) := ⟨RX1, TX1, 10, tyX1, rfl, tyX1_ok, nmX1, rfl, by decide +kernel, rfl⟩
theorem ff_9_1 : FF 9 1 (.object "UnderBars$Names") := ⟨RX9, TX9, 11, tyX9, rfl, tyX9_ok, nmX9, rfl, by decide +kernel, rfl⟩
theorem ff_3_0 : FF 3 0 (.array .int) := ⟨RX3, TX3, 15, tyX3, rfl, tyX3_ok, nmX3, rfl, by decide +kernel, rfl⟩
theorem ff_3_1 : FF 3 1 (.array .int) := ⟨RX3, TX3, 15, tyX3, rfl, tyX3_ok, nmX3, rfl, by decide +kernel, rfl⟩
theorem ff_3_2 : FF 3 2 (.array .int) := ⟨RX3, TX3, 15, tyX3, rfl, tyX3_ok, nmX3, rfl, by decide +kernel, rfl⟩
theorem ff_3_3 : FF 3 3 (.array .int) := ⟨RX3, TX3, 15, tyX3, rfl, tyX3_ok, nmX3, rfl, by decide +kernel, rfl⟩
theorem ff_3_4 : FF 3 4 (.array .int) := ⟨RX3, TX3, 15, tyX3, rfl, tyX3_ok, nmX3, rfl, by decide +kernel, rfl⟩
theorem ff_3_5 : FF 3 5 (.array .int) := ⟨RX3, TX3, 15, tyX3, rfl, tyX3_ok, nmX3, rfl, by decide +kernel, rfl⟩
theorem ff_3_6 : FF 3 6 (.array .int) := ⟨RX3, TX3, 15, tyX3, rfl, tyX3_ok, nmX3, rfl, by decide +kernel, rfl⟩
theorem ff_3_7 : FF 3 7 (.array .int) := ⟨RX3, TX3, 15, tyX3, rfl, tyX3_ok, nmX3, rfl, by decide +kernel, rfl⟩
theorem ff_3_8 : FF 3 8 (.array .int) := ⟨RX3, TX3, 15, tyX3, rfl, tyX3_ok, nmX3, rfl, by decide +kernel, rfl⟩
theorem ff_3_9 : FF 3 9 (.array .int) := ⟨RX3, TX3, 15, tyX3, rfl, tyX3_ok, nmX3, rfl, by decide +kernel, rfl⟩
theorem ff_9_2 : FF 9 2 (.object "UnderBars$Pages") := ⟨RX9, TX9, 11, tyX9, rfl, tyX9_ok, nmX9, rfl, by decide +kernel, rfl⟩
theorem ff_2_2 : FF 2 2 (.array .int) := ⟨RX2, TX2, 13, tyX2, rfl, tyX2_ok, nmX2, rfl, by decide +kernel, rfl⟩
theorem ff_2_3 : FF 2 3 (.array .int) := ⟨RX2, TX2, 13, tyX2, rfl, tyX2_ok, nmX2, rfl, by decide +kernel, rfl⟩
theorem ff_2_4 : FF 2 4 (.array .int) := ⟨RX2, TX2, 13, tyX2, rfl, tyX2_ok, nmX2, rfl, by decide +kernel, rfl⟩
theorem ff_2_0 : FF 2 0 (.object "UnderBars$Text") := ⟨RX2, TX2, 13, tyX2, rfl, tyX2_ok, nmX2, rfl, by decide +kernel, rfl⟩
theorem ff_2_1 : FF 2 1 (.object "UnderBars$Names") := ⟨RX2, TX2, 13, tyX2, rfl, tyX2_ok, nmX2, rfl, by decide +kernel, rfl⟩
theorem ff_9_3 : FF 9 3 (.object "UnderBars$PageParser") := ⟨RX9, TX9, 11, tyX9, rfl, tyX9_ok, nmX9, rfl, by decide +kernel, rfl⟩
theorem ff_4_0 : FF 4 0 (.array .int) := ⟨RX4, TX4, 2, tyX4, rfl, tyX4_ok, nmX4, rfl, by decide +kernel, rfl⟩
theorem ff_4_1 : FF 4 1 (.array .int) := ⟨RX4, TX4, 2, tyX4, rfl, tyX4_ok, nmX4, rfl, by decide +kernel, rfl⟩
theorem ff_9_4 : FF 9 4 (.object "UnderBars$Readers") := ⟨RX9, TX9, 11, tyX9, rfl, tyX9_ok, nmX9, rfl, by decide +kernel, rfl⟩
theorem ff_6_0 : FF 6 0 (.array .int) := ⟨RX6, TX6, 4, tyX6, rfl, tyX6_ok, nmX6, rfl, by decide +kernel, rfl⟩
theorem ff_6_1 : FF 6 1 (.array .int) := ⟨RX6, TX6, 4, tyX6, rfl, tyX6_ok, nmX6, rfl, by decide +kernel, rfl⟩
theorem ff_6_2 : FF 6 2 (.array .int) := ⟨RX6, TX6, 4, tyX6, rfl, tyX6_ok, nmX6, rfl, by decide +kernel, rfl⟩
theorem ff_9_5 : FF 9 5 (.object "UnderBars$Slots") := ⟨RX9, TX9, 11, tyX9, rfl, tyX9_ok, nmX9, rfl, by decide +kernel, rfl⟩
theorem ff_0_3 : FF 0 3 (.array .int) := ⟨RX0, TX0, 6, tyX0, rfl, tyX0_ok, nmX0, rfl, by decide +kernel, rfl⟩
theorem ff_0_4 : FF 0 4 (.array .int) := ⟨RX0, TX0, 6, tyX0, rfl, tyX0_ok, nmX0, rfl, by decide +kernel, rfl⟩
theorem ff_0_5 : FF 0 5 (.array .int) := ⟨RX0, TX0, 6, tyX0, rfl, tyX0_ok, nmX0, rfl, by decide +kernel, rfl⟩
theorem ff_0_0 : FF 0 0 (.object "UnderBars$Names") := ⟨RX0, TX0, 6, tyX0, rfl, tyX0_ok, nmX0, rfl, by decide +kernel, rfl⟩
theorem ff_0_1 : FF 0 1 (.object "UnderBars$Pages") := ⟨RX0, TX0, 6, tyX0, rfl, tyX0_ok, nmX0, rfl, by decide +kernel, rfl⟩
theorem ff_0_2 : FF 0 2 (.object "UnderBars$Slots") := ⟨RX0, TX0, 6, tyX0, rfl, tyX0_ok, nmX0, rfl, by decide +kernel, rfl⟩
theorem ff_9_6 : FF 9 6 (.object "UnderBars$Layout") := ⟨RX9, TX9, 11, tyX9, rfl, tyX9_ok, nmX9, rfl, by decide +kernel, rfl⟩
theorem ff_7_0 : FF 7 0 (.array .int) := ⟨RX7, TX7, 7, tyX7, rfl, tyX7_ok, nmX7, rfl, by decide +kernel, rfl⟩
theorem ff_5_2 : FF 5 2 (.object "UnderBars$Tally") := ⟨RX5, TX5, 12, tyX5, rfl, tyX5_ok, nmX5, rfl, by decide +kernel, rfl⟩
theorem ff_5_3 : FF 5 3 (.array .int) := ⟨RX5, TX5, 12, tyX5, rfl, tyX5_ok, nmX5, rfl, by decide +kernel, rfl⟩
theorem ff_5_4 : FF 5 4 (.array .int) := ⟨RX5, TX5, 12, tyX5, rfl, tyX5_ok, nmX5, rfl, by decide +kernel, rfl⟩
theorem ff_5_5 : FF 5 5 (.array .int) := ⟨RX5, TX5, 12, tyX5, rfl, tyX5_ok, nmX5, rfl, by decide +kernel, rfl⟩
theorem ff_5_6 : FF 5 6 (.array .int) := ⟨RX5, TX5, 12, tyX5, rfl, tyX5_ok, nmX5, rfl, by decide +kernel, rfl⟩
theorem ff_5_7 : FF 5 7 (.array .int) := ⟨RX5, TX5, 12, tyX5, rfl, tyX5_ok, nmX5, rfl, by decide +kernel, rfl⟩
theorem ff_5_8 : FF 5 8 (.array .long) := ⟨RX5, TX5, 12, tyX5, rfl, tyX5_ok, nmX5, rfl, by decide +kernel, rfl⟩
theorem ff_5_0 : FF 5 0 (.object "UnderBars$Names") := ⟨RX5, TX5, 12, tyX5, rfl, tyX5_ok, nmX5, rfl, by decide +kernel, rfl⟩
theorem ff_5_1 : FF 5 1 (.object "UnderBars$Slots") := ⟨RX5, TX5, 12, tyX5, rfl, tyX5_ok, nmX5, rfl, by decide +kernel, rfl⟩
theorem ff_9_7 : FF 9 7 (.object "UnderBars$Search") := ⟨RX9, TX9, 11, tyX9, rfl, tyX9_ok, nmX9, rfl, by decide +kernel, rfl⟩
theorem ff_10_0 : FF 10 0 (.array .int) := ⟨RX10, TX10, 59, tyX10, rfl, tyX10_ok, nmX10, rfl, by decide +kernel, rfl⟩
theorem ff_10_2 : FF 10 2 (.array .int) := ⟨RX10, TX10, 59, tyX10, rfl, tyX10_ok, nmX10, rfl, by decide +kernel, rfl⟩
theorem ff_10_3 : FF 10 3 (.array .int) := ⟨RX10, TX10, 59, tyX10, rfl, tyX10_ok, nmX10, rfl, by decide +kernel, rfl⟩
theorem ff_10_4 : FF 10 4 (.array .int) := ⟨RX10, TX10, 59, tyX10, rfl, tyX10_ok, nmX10, rfl, by decide +kernel, rfl⟩
theorem ff_10_5 : FF 10 5 (.array .int) := ⟨RX10, TX10, 59, tyX10, rfl, tyX10_ok, nmX10, rfl, by decide +kernel, rfl⟩
theorem ff_10_6 : FF 10 6 (.array .int) := ⟨RX10, TX10, 59, tyX10, rfl, tyX10_ok, nmX10, rfl, by decide +kernel, rfl⟩
theorem ff_10_7 : FF 10 7 (.array .int) := ⟨RX10, TX10, 59, tyX10, rfl, tyX10_ok, nmX10, rfl, by decide +kernel, rfl⟩
theorem ff_10_8 : FF 10 8 (.array .int) := ⟨RX10, TX10, 59, tyX10, rfl, tyX10_ok, nmX10, rfl, by decide +kernel, rfl⟩
theorem ff_10_11 : FF 10 11 (.array .int) := ⟨RX10, TX10, 59, tyX10, rfl, tyX10_ok, nmX10, rfl, by decide +kernel, rfl⟩
theorem ff_10_14 : FF 10 14 (.array .int) := ⟨RX10, TX10, 59, tyX10, rfl, tyX10_ok, nmX10, rfl, by decide +kernel, rfl⟩
theorem ff_10_15 : FF 10 15 (.array .int) := ⟨RX10, TX10, 59, tyX10, rfl, tyX10_ok, nmX10, rfl, by decide +kernel, rfl⟩
theorem ff_10_17 : FF 10 17 (.array .int) := ⟨RX10, TX10, 59, tyX10, rfl, tyX10_ok, nmX10, rfl, by decide +kernel, rfl⟩
theorem ff_10_18 : FF 10 18 (.array .int) := ⟨RX10, TX10, 59, tyX10, rfl, tyX10_ok, nmX10, rfl, by decide +kernel, rfl⟩
theorem ff_10_19 : FF 10 19 (.array .int) := ⟨RX10, TX10, 59, tyX10, rfl, tyX10_ok, nmX10, rfl, by decide +kernel, rfl⟩
theorem ff_10_20 : FF 10 20 (.array .int) := ⟨RX10, TX10, 59, tyX10, rfl, tyX10_ok, nmX10, rfl, by decide +kernel, rfl⟩
theorem ff_10_21 : FF 10 21 (.array .int) := ⟨RX10, TX10, 59, tyX10, rfl, tyX10_ok, nmX10, rfl, by decide +kernel, rfl⟩
theorem ff_10_23 : FF 10 23 (.array .int) := ⟨RX10, TX10, 59, tyX10, rfl, tyX10_ok, nmX10, rfl, by decide +kernel, rfl⟩
theorem ff_10_25 : FF 10 25 (.array .int) := ⟨RX10, TX10, 59, tyX10, rfl, tyX10_ok, nmX10, rfl, by decide +kernel, rfl⟩
theorem ff_10_26 : FF 10 26 (.array .int) := ⟨RX10, TX10, 59, tyX10, rfl, tyX10_ok, nmX10, rfl, by decide +kernel, rfl⟩
theorem ff_10_34 : FF 10 34 (.array .int) := ⟨RX10, TX10, 59, tyX10, rfl, tyX10_ok, nmX10, rfl, by decide +kernel, rfl⟩
theorem ff_10_35 : FF 10 35 (.array .int) := ⟨RX10, TX10, 59, tyX10, rfl, tyX10_ok, nmX10, rfl, by decide +kernel, rfl⟩
theorem ff_10_36 : FF 10 36 (.array .int) := ⟨RX10, TX10, 59, tyX10, rfl, tyX10_ok, nmX10, rfl, by decide +kernel, rfl⟩
theorem ff_10_40 : FF 10 40 (.array .int) := ⟨RX10, TX10, 59, tyX10, rfl, tyX10_ok, nmX10, rfl, by decide +kernel, rfl⟩
theorem ff_10_42 : FF 10 42 (.array .int) := ⟨RX10, TX10, 59, tyX10, rfl, tyX10_ok, nmX10, rfl, by decide +kernel, rfl⟩
theorem ff_10_44 : FF 10 44 (.array .int) := ⟨RX10, TX10, 59, tyX10, rfl, tyX10_ok, nmX10, rfl, by decide +kernel, rfl⟩
theorem ff_10_45 : FF 10 45 (.array .int) := ⟨RX10, TX10, 59, tyX10, rfl, tyX10_ok, nmX10, rfl, by decide +kernel, rfl⟩
theorem ff_10_49 : FF 10 49 (.array .int) := ⟨RX10, TX10, 59, tyX10, rfl, tyX10_ok, nmX10, rfl, by decide +kernel, rfl⟩
theorem ff_10_50 : FF 10 50 (.array .long) := ⟨RX10, TX10, 59, tyX10, rfl, tyX10_ok, nmX10, rfl, by decide +kernel, rfl⟩
theorem ff_10_56 : FF 10 56 (.array .int) := ⟨RX10, TX10, 59, tyX10, rfl, tyX10_ok, nmX10, rfl, by decide +kernel, rfl⟩
theorem ff_10_57 : FF 10 57 (.array .int) := ⟨RX10, TX10, 59, tyX10, rfl, tyX10_ok, nmX10, rfl, by decide +kernel, rfl⟩
theorem ff_10_58 : FF 10 58 (.array .int) := ⟨RX10, TX10, 59, tyX10, rfl, tyX10_ok, nmX10, rfl, by decide +kernel, rfl⟩
/-! THE CONSTRUCTORS, printed by a program (gen/ctor.py); Arrays.fill on a fresh array -/
def fillN (n : Nat) (v : Int32) (f : Nat → Int32) : Nat → Int32 := fun j => if j < n then v else f j
theorem fillN_0 {v : Int32} {f : Nat → Int32} : fillN 0 v f = f := by
  funext j
  simp [fillN]
theorem fillN_s {v : Int32} {f : Nat → Int32} {k : Nat} : upd (fillN k v f) k v = fillN (k + 1) v f := by
  funext j
  simp only [upd, fillN]
  by_cases h : j = k
  · subst h
    simp
  · by_cases h2 : j < k
    · rw [if_neg h, if_pos h2, if_pos (by omega)]
    · rw [if_neg h, if_neg h2, if_neg (by omega)]
set_option maxHeartbeats 4000000 in
set_option maxRecDepth 100000 in
theorem cIfill {Γ : Cxt} {cI : ClassId} (eI : Γ.2.2.1.2.1 = cI) (a sz N : Nat) (hN : N < 1000) (v : Int32) (f : Nat → Int32) : MC Γ yJ7_fill_53178 cJ7_fill_53178 4 { frames := 0, cells := 0, slots := 0, locals := 0 } [.ref a, .int v] [(a, .inl (cI, N, .inl f))] sz 0 0 (fun w => w = [(a, .inl (cI, N, .inl (fillN N v f)))]) := by
  refine mc_of (by decide) (Nat.le_of_ble_eq_true rfl) (fun Γ e1 e2 _ O r => ?_)
  have eI := e1.trans eI
  have loop : ∀ k i : Nat, k + i = N → Uj Γ (va_A [(a, .inl (cI, N, .inl f))] sz) 5 [(0, .ref a), (1, .int v), (2, .int (nI i)), (3, .int (nI N))] [] [(a, .inl (cI, N, .inl (fillN i v f)))] 0 0 := by
    intro k
    induction k with
    | zero =>
      intro i hi
      have hi : i = N := by omega
      subst hi
      refine u_iload_n O dJ7_fill_53178_5 rfl 2 rfl ?_
      refine u_iload_n O dJ7_fill_53178_6 rfl 3 rfl ?_
      refine u_icmp_ge (tgt := 20) O dJ7_fill_53178_7 (by decide) (fun g => ?_) (fun g => ?_)
      · exact u_vret O r dJ7_fill_53178_20 rfl
      · exact absurd (nI_le (Nat.le_refl _) (by omega)) g
    | succ k ih =>
      intro i hi
      refine u_iload_n O dJ7_fill_53178_5 rfl 2 rfl ?_
      refine u_iload_n O dJ7_fill_53178_6 rfl 3 rfl ?_
      refine u_icmp_ge (tgt := 20) O dJ7_fill_53178_7 (by decide) (fun g => ?_) (fun g => ?_)
      · exact absurd g (nI_ge (by omega) (by omega))
      · refine u_aload_n O dJ7_fill_53178_10 rfl 0 rfl ?_
        refine u_iload_n O dJ7_fill_53178_11 rfl 2 rfl ?_
        refine u_iload_n O dJ7_fill_53178_12 rfl 1 rfl ?_
        refine u_iast (q0 := 0) (N := N) (ws' := [(a, .inl (cI, N, .inl (fillN (i + 1) v f)))]) O dJ7_fill_53178_13 (by rw [eI]; rfl) (vp_in_nI (by omega) (by omega)) (by rw [eI, nI_clamp (by omega), fillN_s]; rfl) ?_
        refine u_iinc (j := 2) (v := nI (i + 1)) (lv' := [(2, .int (nI (i + 1))), (0, .ref a), (1, .int v), (3, .int (nI N))]) O dJ7_fill_53178_14 rfl (by rw [nI_succ]; exact congrArg _ kc_1) (by decide) rfl ?_
        refine u_goto (tgt := 5) O dJ7_fill_53178_17 (by decide) ?_
        exact u_loc [1, 2, 0, 3] rfl (ih (i + 1) (by omega))
  refine u_loc (lv' := [(0, .ref a), (1, .int v)]) [0, 1] rfl ?_
  refine u_iconst O dJ7_fill_53178_0 kc_0 ?_
  refine u_istore_n (lv' := [(2, .int (nI 0)), (0, .ref a), (1, .int v)]) O dJ7_fill_53178_1 rfl (by decide) rfl ?_
  refine u_aload_n O dJ7_fill_53178_2 rfl 1 rfl ?_
  refine u_alen (q0 := 0) (N := N) (v := nI N) O dJ7_fill_53178_3 (by rw [eI]; rfl) rfl ?_
  refine u_istore_n (lv' := [(3, .int (nI N)), (2, .int (nI 0)), (0, .ref a), (1, .int v)]) O dJ7_fill_53178_4 rfl (by decide) rfl ?_
  refine u_eq (ws' := [(a, .inl (cI, N, .inl (fillN 0 v f)))]) (by rw [fillN_0]) ?_
  exact u_loc [2, 3, 1, 0] rfl (loop N 0 (by omega))
theorem dX8_init_0 : decode cX8_init 0 = .ok (.aload_n 0, 1) := by decide +kernel
theorem dX8_init_1 : decode cX8_init 1 = .ok (.invokespecial 3, 3) := by decide +kernel
theorem dX8_init_4 : decode cX8_init 4 = .ok (.aload_n 0, 1) := by decide +kernel
theorem dX8_init_5 : decode cX8_init 5 = .ok (.bipush 120, 2) := by decide +kernel
theorem dX8_init_7 : decode cX8_init 7 = .ok (.newarray .int, 2) := by decide +kernel
theorem dX8_init_9 : decode cX8_init 9 = .ok (.putfield 9, 3) := by decide +kernel
theorem dX8_init_12 : decode cX8_init 12 = .ok (.aload_n 0, 1) := by decide +kernel
theorem dX8_init_13 : decode cX8_init 13 = .ok (.iconst 0, 1) := by decide +kernel
theorem dX8_init_14 : decode cX8_init 14 = .ok (.putfield 15, 3) := by decide +kernel
theorem dX8_init_17 : decode cX8_init 17 = .ok (.return_, 1) := by decide +kernel
set_option maxHeartbeats 4000000 in
set_option maxRecDepth 100000 in
theorem cI_X8_init {Γ : Cxt} {cI cL : ClassId} (eI : Γ.2.2.1.2.1 = cI) (eL : Γ.2.2.1.2.2.1 = cL) (h0 : Nat) (sz : Nat) : MC Γ yX8_init cX8_init 1 { frames := 1, cells := 1, slots := 120, locals := 20 } [.ref h0] [(h0, .inr (8, [.null, .int 0]))] sz 1 120 (fun w => ∃ (q1 : Nat), w = [(h0, .inr (8, [.ref q1, .int 0])), (q1, .inl (cI, 120, .inl (fun _ => 0)))]) := by
  refine mc_of (by decide) (Nat.le_of_ble_eq_true rfl) (fun Γ e1 e2 hI0 O r => ?_)
  have hI := hI0 rfl
  have eI := e1.trans eI
  have eL := e2.trans eL
  refine u_loc (lv' := [(0, .ref h0)]) [0] rfl ?_
  refine u_aload_n O dX8_init_0 rfl 0 rfl ?_
  refine u_obj O dX8_init_1 ol_X8_3 (by decide) (Nat.le_of_ble_eq_true rfl) ?_
  refine u_aload_n O dX8_init_4 rfl 0 rfl ?_
  refine u_bipush O dX8_init_5 kb_120 ?_
  refine u_newI (N := 120) O dX8_init_7 (by decide) (by decide) (by decide) (by decide) (fun q1 cz ez => ?_)
  have ez := eI.symm.trans ez
  subst ez
  refine u_eq (ws' := [(h0, .inr (8, [.null, .int 0])), (q1, .inl (cI, 120, .inl (fun _ => 0)))]) rfl ?_
  refine u_putF (q0 := 0) (ws' := [(h0, .inr (8, [.ref q1, .int 0])), (q1, .inl (cI, 120, .inl (fun _ => 0)))]) O hI dX8_init_9 fo_X8_9 ff_8_0 rfl rfl rfl rfl (Nat.le_of_ble_eq_true rfl) rfl ?_
  refine u_aload_n O dX8_init_12 rfl 0 rfl ?_
  refine u_iconst O dX8_init_13 kc_0 ?_
  refine u_put (q0 := 0) (ws' := [(h0, .inr (8, [.ref q1, .int 0])), (q1, .inl (cI, 120, .inl (fun _ => 0)))]) O dX8_init_14 fo_X8_15 fp_8_1 rfl rfl rfl (Nat.le_of_ble_eq_true rfl) rfl ?_
  exact u_vret O r dX8_init_17 ⟨q1, rfl⟩
theorem dX1_init_0 : decode cX1_init 0 = .ok (.aload_n 0, 1) := by decide +kernel
theorem dX1_init_1 : decode cX1_init 1 = .ok (.invokespecial 3, 3) := by decide +kernel
theorem dX1_init_4 : decode cX1_init 4 = .ok (.aload_n 0, 1) := by decide +kernel
theorem dX1_init_5 : decode cX1_init 5 = .ok (.bipush 52, 2) := by decide +kernel
theorem dX1_init_7 : decode cX1_init 7 = .ok (.newarray .int, 2) := by decide +kernel
theorem dX1_init_9 : decode cX1_init 9 = .ok (.putfield 9, 3) := by decide +kernel
theorem dX1_init_12 : decode cX1_init 12 = .ok (.aload_n 0, 1) := by decide +kernel
theorem dX1_init_13 : decode cX1_init 13 = .ok (.bipush 120, 2) := by decide +kernel
theorem dX1_init_15 : decode cX1_init 15 = .ok (.newarray .int, 2) := by decide +kernel
theorem dX1_init_17 : decode cX1_init 17 = .ok (.putfield 15, 3) := by decide +kernel
theorem dX1_init_20 : decode cX1_init 20 = .ok (.aload_n 0, 1) := by decide +kernel
theorem dX1_init_21 : decode cX1_init 21 = .ok (.bipush 10, 2) := by decide +kernel
theorem dX1_init_23 : decode cX1_init 23 = .ok (.newarray .int, 2) := by decide +kernel
theorem dX1_init_25 : decode cX1_init 25 = .ok (.putfield 18, 3) := by decide +kernel
theorem dX1_init_28 : decode cX1_init 28 = .ok (.aload_n 0, 1) := by decide +kernel
theorem dX1_init_29 : decode cX1_init 29 = .ok (.bipush 20, 2) := by decide +kernel
theorem dX1_init_31 : decode cX1_init 31 = .ok (.newarray .int, 2) := by decide +kernel
theorem dX1_init_33 : decode cX1_init 33 = .ok (.putfield 21, 3) := by decide +kernel
theorem dX1_init_36 : decode cX1_init 36 = .ok (.aload_n 0, 1) := by decide +kernel
theorem dX1_init_37 : decode cX1_init 37 = .ok (.bipush 10, 2) := by decide +kernel
theorem dX1_init_39 : decode cX1_init 39 = .ok (.newarray .int, 2) := by decide +kernel
theorem dX1_init_41 : decode cX1_init 41 = .ok (.putfield 24, 3) := by decide +kernel
theorem dX1_init_44 : decode cX1_init 44 = .ok (.aload_n 0, 1) := by decide +kernel
theorem dX1_init_45 : decode cX1_init 45 = .ok (.bipush 10, 2) := by decide +kernel
theorem dX1_init_47 : decode cX1_init 47 = .ok (.newarray .int, 2) := by decide +kernel
theorem dX1_init_49 : decode cX1_init 49 = .ok (.putfield 27, 3) := by decide +kernel
theorem dX1_init_52 : decode cX1_init 52 = .ok (.aload_n 0, 1) := by decide +kernel
theorem dX1_init_53 : decode cX1_init 53 = .ok (.bipush 10, 2) := by decide +kernel
theorem dX1_init_55 : decode cX1_init 55 = .ok (.newarray .int, 2) := by decide +kernel
theorem dX1_init_57 : decode cX1_init 57 = .ok (.putfield 30, 3) := by decide +kernel
theorem dX1_init_60 : decode cX1_init 60 = .ok (.aload_n 0, 1) := by decide +kernel
theorem dX1_init_61 : decode cX1_init 61 = .ok (.bipush 10, 2) := by decide +kernel
theorem dX1_init_63 : decode cX1_init 63 = .ok (.newarray .int, 2) := by decide +kernel
theorem dX1_init_65 : decode cX1_init 65 = .ok (.putfield 33, 3) := by decide +kernel
theorem dX1_init_68 : decode cX1_init 68 = .ok (.aload_n 0, 1) := by decide +kernel
theorem dX1_init_69 : decode cX1_init 69 = .ok (.bipush 10, 2) := by decide +kernel
theorem dX1_init_71 : decode cX1_init 71 = .ok (.newarray .int, 2) := by decide +kernel
theorem dX1_init_73 : decode cX1_init 73 = .ok (.putfield 36, 3) := by decide +kernel
theorem dX1_init_76 : decode cX1_init 76 = .ok (.aload_n 0, 1) := by decide +kernel
theorem dX1_init_77 : decode cX1_init 77 = .ok (.iconst 0, 1) := by decide +kernel
theorem dX1_init_78 : decode cX1_init 78 = .ok (.putfield 39, 3) := by decide +kernel
theorem dX1_init_81 : decode cX1_init 81 = .ok (.aload_n 0, 1) := by decide +kernel
theorem dX1_init_82 : decode cX1_init 82 = .ok (.getfield 9, 3) := by decide +kernel
theorem dX1_init_85 : decode cX1_init 85 = .ok (.iconst 5, 1) := by decide +kernel
theorem dX1_init_86 : decode cX1_init 86 = .ok (.invokestatic 43, 3) := by decide +kernel
theorem dX1_init_89 : decode cX1_init 89 = .ok (.return_, 1) := by decide +kernel
set_option maxHeartbeats 4000000 in
set_option maxRecDepth 100000 in
theorem cI_X1_init {Γ : Cxt} {cI cL : ClassId} (eI : Γ.2.2.1.2.1 = cI) (eL : Γ.2.2.1.2.2.1 = cL) (h0 : Nat) (sz : Nat) : MC Γ yX1_init cX1_init 1 { frames := 1, cells := 9, slots := 252, locals := 23 } [.ref h0] [(h0, .inr (1, [.null, .null, .null, .null, .null, .null, .null, .null, .null, .int 0]))] sz 9 252 (fun w => ∃ (q1 q2 q3 q4 q5 q6 q7 q8 q9 : Nat), w = [(h0, .inr (1, [.ref q1, .ref q2, .ref q3, .ref q4, .ref q5, .ref q6, .ref q7, .ref q8, .ref q9, .int 0])), (q1, .inl (cI, 52, .inl (fillN 52 5 (fun _ => 0)))), (q2, .inl (cI, 120, .inl (fun _ => 0))), (q3, .inl (cI, 10, .inl (fun _ => 0))), (q4, .inl (cI, 20, .inl (fun _ => 0))), (q5, .inl (cI, 10, .inl (fun _ => 0))), (q6, .inl (cI, 10, .inl (fun _ => 0))), (q7, .inl (cI, 10, .inl (fun _ => 0))), (q8, .inl (cI, 10, .inl (fun _ => 0))), (q9, .inl (cI, 10, .inl (fun _ => 0)))]) := by
  refine mc_of (by decide) (Nat.le_of_ble_eq_true rfl) (fun Γ e1 e2 hI0 O r => ?_)
  have hI := hI0 rfl
  have eI := e1.trans eI
  have eL := e2.trans eL
  refine u_loc (lv' := [(0, .ref h0)]) [0] rfl ?_
  refine u_aload_n O dX1_init_0 rfl 0 rfl ?_
  refine u_obj O dX1_init_1 ol_X1_3 (by decide) (Nat.le_of_ble_eq_true rfl) ?_
  refine u_aload_n O dX1_init_4 rfl 0 rfl ?_
  refine u_bipush O dX1_init_5 kb_52 ?_
  refine u_newI (N := 52) O dX1_init_7 (by decide) (by decide) (by decide) (by decide) (fun q1 cz ez => ?_)
  have ez := eI.symm.trans ez
  subst ez
  refine u_eq (ws' := [(h0, .inr (1, [.null, .null, .null, .null, .null, .null, .null, .null, .null, .int 0])), (q1, .inl (cI, 52, .inl (fun _ => 0)))]) rfl ?_
  refine u_putF (q0 := 0) (ws' := [(h0, .inr (1, [.ref q1, .null, .null, .null, .null, .null, .null, .null, .null, .int 0])), (q1, .inl (cI, 52, .inl (fun _ => 0)))]) O hI dX1_init_9 fo_X1_9 ff_1_0 rfl rfl rfl rfl (Nat.le_of_ble_eq_true rfl) rfl ?_
  refine u_aload_n O dX1_init_12 rfl 0 rfl ?_
  refine u_bipush O dX1_init_13 kb_120 ?_
  refine u_newI (N := 120) O dX1_init_15 (by decide) (by decide) (by decide) (by decide) (fun q2 cz ez => ?_)
  have ez := eI.symm.trans ez
  subst ez
  refine u_eq (ws' := [(h0, .inr (1, [.ref q1, .null, .null, .null, .null, .null, .null, .null, .null, .int 0])), (q1, .inl (cI, 52, .inl (fun _ => 0))), (q2, .inl (cI, 120, .inl (fun _ => 0)))]) rfl ?_
  refine u_putF (q0 := 0) (ws' := [(h0, .inr (1, [.ref q1, .ref q2, .null, .null, .null, .null, .null, .null, .null, .int 0])), (q1, .inl (cI, 52, .inl (fun _ => 0))), (q2, .inl (cI, 120, .inl (fun _ => 0)))]) O hI dX1_init_17 fo_X1_15 ff_1_1 rfl rfl rfl rfl (Nat.le_of_ble_eq_true rfl) rfl ?_
  refine u_aload_n O dX1_init_20 rfl 0 rfl ?_
  refine u_bipush O dX1_init_21 kb_10 ?_
  refine u_newI (N := 10) O dX1_init_23 (by decide) (by decide) (by decide) (by decide) (fun q3 cz ez => ?_)
  have ez := eI.symm.trans ez
  subst ez
  refine u_eq (ws' := [(h0, .inr (1, [.ref q1, .ref q2, .null, .null, .null, .null, .null, .null, .null, .int 0])), (q1, .inl (cI, 52, .inl (fun _ => 0))), (q2, .inl (cI, 120, .inl (fun _ => 0))), (q3, .inl (cI, 10, .inl (fun _ => 0)))]) rfl ?_
  refine u_putF (q0 := 0) (ws' := [(h0, .inr (1, [.ref q1, .ref q2, .ref q3, .null, .null, .null, .null, .null, .null, .int 0])), (q1, .inl (cI, 52, .inl (fun _ => 0))), (q2, .inl (cI, 120, .inl (fun _ => 0))), (q3, .inl (cI, 10, .inl (fun _ => 0)))]) O hI dX1_init_25 fo_X1_18 ff_1_2 rfl rfl rfl rfl (Nat.le_of_ble_eq_true rfl) rfl ?_
  refine u_aload_n O dX1_init_28 rfl 0 rfl ?_
  refine u_bipush O dX1_init_29 kb_20 ?_
  refine u_newI (N := 20) O dX1_init_31 (by decide) (by decide) (by decide) (by decide) (fun q4 cz ez => ?_)
  have ez := eI.symm.trans ez
  subst ez
  refine u_eq (ws' := [(h0, .inr (1, [.ref q1, .ref q2, .ref q3, .null, .null, .null, .null, .null, .null, .int 0])), (q1, .inl (cI, 52, .inl (fun _ => 0))), (q2, .inl (cI, 120, .inl (fun _ => 0))), (q3, .inl (cI, 10, .inl (fun _ => 0))), (q4, .inl (cI, 20, .inl (fun _ => 0)))]) rfl ?_
  refine u_putF (q0 := 0) (ws' := [(h0, .inr (1, [.ref q1, .ref q2, .ref q3, .ref q4, .null, .null, .null, .null, .null, .int 0])), (q1, .inl (cI, 52, .inl (fun _ => 0))), (q2, .inl (cI, 120, .inl (fun _ => 0))), (q3, .inl (cI, 10, .inl (fun _ => 0))), (q4, .inl (cI, 20, .inl (fun _ => 0)))]) O hI dX1_init_33 fo_X1_21 ff_1_3 rfl rfl rfl rfl (Nat.le_of_ble_eq_true rfl) rfl ?_
  refine u_aload_n O dX1_init_36 rfl 0 rfl ?_
  refine u_bipush O dX1_init_37 kb_10 ?_
  refine u_newI (N := 10) O dX1_init_39 (by decide) (by decide) (by decide) (by decide) (fun q5 cz ez => ?_)
  have ez := eI.symm.trans ez
  subst ez
  refine u_eq (ws' := [(h0, .inr (1, [.ref q1, .ref q2, .ref q3, .ref q4, .null, .null, .null, .null, .null, .int 0])), (q1, .inl (cI, 52, .inl (fun _ => 0))), (q2, .inl (cI, 120, .inl (fun _ => 0))), (q3, .inl (cI, 10, .inl (fun _ => 0))), (q4, .inl (cI, 20, .inl (fun _ => 0))), (q5, .inl (cI, 10, .inl (fun _ => 0)))]) rfl ?_
  refine u_putF (q0 := 0) (ws' := [(h0, .inr (1, [.ref q1, .ref q2, .ref q3, .ref q4, .ref q5, .null, .null, .null, .null, .int 0])), (q1, .inl (cI, 52, .inl (fun _ => 0))), (q2, .inl (cI, 120, .inl (fun _ => 0))), (q3, .inl (cI, 10, .inl (fun _ => 0))), (q4, .inl (cI, 20, .inl (fun _ => 0))), (q5, .inl (cI, 10, .inl (fun _ => 0)))]) O hI dX1_init_41 fo_X1_24 ff_1_4 rfl rfl rfl rfl (Nat.le_of_ble_eq_true rfl) rfl ?_
  refine u_aload_n O dX1_init_44 rfl 0 rfl ?_
  refine u_bipush O dX1_init_45 kb_10 ?_
  refine u_newI (N := 10) O dX1_init_47 (by decide) (by decide) (by decide) (by decide) (fun q6 cz ez => ?_)
  have ez := eI.symm.trans ez
  subst ez
  refine u_eq (ws' := [(h0, .inr (1, [.ref q1, .ref q2, .ref q3, .ref q4, .ref q5, .null, .null, .null, .null, .int 0])), (q1, .inl (cI, 52, .inl (fun _ => 0))), (q2, .inl (cI, 120, .inl (fun _ => 0))), (q3, .inl (cI, 10, .inl (fun _ => 0))), (q4, .inl (cI, 20, .inl (fun _ => 0))), (q5, .inl (cI, 10, .inl (fun _ => 0))), (q6, .inl (cI, 10, .inl (fun _ => 0)))]) rfl ?_
  refine u_putF (q0 := 0) (ws' := [(h0, .inr (1, [.ref q1, .ref q2, .ref q3, .ref q4, .ref q5, .ref q6, .null, .null, .null, .int 0])), (q1, .inl (cI, 52, .inl (fun _ => 0))), (q2, .inl (cI, 120, .inl (fun _ => 0))), (q3, .inl (cI, 10, .inl (fun _ => 0))), (q4, .inl (cI, 20, .inl (fun _ => 0))), (q5, .inl (cI, 10, .inl (fun _ => 0))), (q6, .inl (cI, 10, .inl (fun _ => 0)))]) O hI dX1_init_49 fo_X1_27 ff_1_5 rfl rfl rfl rfl (Nat.le_of_ble_eq_true rfl) rfl ?_
  refine u_aload_n O dX1_init_52 rfl 0 rfl ?_
  refine u_bipush O dX1_init_53 kb_10 ?_
  refine u_newI (N := 10) O dX1_init_55 (by decide) (by decide) (by decide) (by decide) (fun q7 cz ez => ?_)
  have ez := eI.symm.trans ez
  subst ez
  refine u_eq (ws' := [(h0, .inr (1, [.ref q1, .ref q2, .ref q3, .ref q4, .ref q5, .ref q6, .null, .null, .null, .int 0])), (q1, .inl (cI, 52, .inl (fun _ => 0))), (q2, .inl (cI, 120, .inl (fun _ => 0))), (q3, .inl (cI, 10, .inl (fun _ => 0))), (q4, .inl (cI, 20, .inl (fun _ => 0))), (q5, .inl (cI, 10, .inl (fun _ => 0))), (q6, .inl (cI, 10, .inl (fun _ => 0))), (q7, .inl (cI, 10, .inl (fun _ => 0)))]) rfl ?_
  refine u_putF (q0 := 0) (ws' := [(h0, .inr (1, [.ref q1, .ref q2, .ref q3, .ref q4, .ref q5, .ref q6, .ref q7, .null, .null, .int 0])), (q1, .inl (cI, 52, .inl (fun _ => 0))), (q2, .inl (cI, 120, .inl (fun _ => 0))), (q3, .inl (cI, 10, .inl (fun _ => 0))), (q4, .inl (cI, 20, .inl (fun _ => 0))), (q5, .inl (cI, 10, .inl (fun _ => 0))), (q6, .inl (cI, 10, .inl (fun _ => 0))), (q7, .inl (cI, 10, .inl (fun _ => 0)))]) O hI dX1_init_57 fo_X1_30 ff_1_6 rfl rfl rfl rfl (Nat.le_of_ble_eq_true rfl) rfl ?_
  refine u_aload_n O dX1_init_60 rfl 0 rfl ?_
  refine u_bipush O dX1_init_61 kb_10 ?_
  refine u_newI (N := 10) O dX1_init_63 (by decide) (by decide) (by decide) (by decide) (fun q8 cz ez => ?_)
  have ez := eI.symm.trans ez
  subst ez
  refine u_eq (ws' := [(h0, .inr (1, [.ref q1, .ref q2, .ref q3, .ref q4, .ref q5, .ref q6, .ref q7, .null, .null, .int 0])), (q1, .inl (cI, 52, .inl (fun _ => 0))), (q2, .inl (cI, 120, .inl (fun _ => 0))), (q3, .inl (cI, 10, .inl (fun _ => 0))), (q4, .inl (cI, 20, .inl (fun _ => 0))), (q5, .inl (cI, 10, .inl (fun _ => 0))), (q6, .inl (cI, 10, .inl (fun _ => 0))), (q7, .inl (cI, 10, .inl (fun _ => 0))), (q8, .inl (cI, 10, .inl (fun _ => 0)))]) rfl ?_
  refine u_putF (q0 := 0) (ws' := [(h0, .inr (1, [.ref q1, .ref q2, .ref q3, .ref q4, .ref q5, .ref q6, .ref q7, .ref q8, .null, .int 0])), (q1, .inl (cI, 52, .inl (fun _ => 0))), (q2, .inl (cI, 120, .inl (fun _ => 0))), (q3, .inl (cI, 10, .inl (fun _ => 0))), (q4, .inl (cI, 20, .inl (fun _ => 0))), (q5, .inl (cI, 10, .inl (fun _ => 0))), (q6, .inl (cI, 10, .inl (fun _ => 0))), (q7, .inl (cI, 10, .inl (fun _ => 0))), (q8, .inl (cI, 10, .inl (fun _ => 0)))]) O hI dX1_init_65 fo_X1_33 ff_1_7 rfl rfl rfl rfl (Nat.le_of_ble_eq_true rfl) rfl ?_
  refine u_aload_n O dX1_init_68 rfl 0 rfl ?_
  refine u_bipush O dX1_init_69 kb_10 ?_
  refine u_newI (N := 10) O dX1_init_71 (by decide) (by decide) (by decide) (by decide) (fun q9 cz ez => ?_)
  have ez := eI.symm.trans ez
  subst ez
  refine u_eq (ws' := [(h0, .inr (1, [.ref q1, .ref q2, .ref q3, .ref q4, .ref q5, .ref q6, .ref q7, .ref q8, .null, .int 0])), (q1, .inl (cI, 52, .inl (fun _ => 0))), (q2, .inl (cI, 120, .inl (fun _ => 0))), (q3, .inl (cI, 10, .inl (fun _ => 0))), (q4, .inl (cI, 20, .inl (fun _ => 0))), (q5, .inl (cI, 10, .inl (fun _ => 0))), (q6, .inl (cI, 10, .inl (fun _ => 0))), (q7, .inl (cI, 10, .inl (fun _ => 0))), (q8, .inl (cI, 10, .inl (fun _ => 0))), (q9, .inl (cI, 10, .inl (fun _ => 0)))]) rfl ?_
  refine u_putF (q0 := 0) (ws' := [(h0, .inr (1, [.ref q1, .ref q2, .ref q3, .ref q4, .ref q5, .ref q6, .ref q7, .ref q8, .ref q9, .int 0])), (q1, .inl (cI, 52, .inl (fun _ => 0))), (q2, .inl (cI, 120, .inl (fun _ => 0))), (q3, .inl (cI, 10, .inl (fun _ => 0))), (q4, .inl (cI, 20, .inl (fun _ => 0))), (q5, .inl (cI, 10, .inl (fun _ => 0))), (q6, .inl (cI, 10, .inl (fun _ => 0))), (q7, .inl (cI, 10, .inl (fun _ => 0))), (q8, .inl (cI, 10, .inl (fun _ => 0))), (q9, .inl (cI, 10, .inl (fun _ => 0)))]) O hI dX1_init_73 fo_X1_36 ff_1_8 rfl rfl rfl rfl (Nat.le_of_ble_eq_true rfl) rfl ?_
  refine u_aload_n O dX1_init_76 rfl 0 rfl ?_
  refine u_iconst O dX1_init_77 kc_0 ?_
  refine u_put (q0 := 0) (ws' := [(h0, .inr (1, [.ref q1, .ref q2, .ref q3, .ref q4, .ref q5, .ref q6, .ref q7, .ref q8, .ref q9, .int 0])), (q1, .inl (cI, 52, .inl (fun _ => 0))), (q2, .inl (cI, 120, .inl (fun _ => 0))), (q3, .inl (cI, 10, .inl (fun _ => 0))), (q4, .inl (cI, 20, .inl (fun _ => 0))), (q5, .inl (cI, 10, .inl (fun _ => 0))), (q6, .inl (cI, 10, .inl (fun _ => 0))), (q7, .inl (cI, 10, .inl (fun _ => 0))), (q8, .inl (cI, 10, .inl (fun _ => 0))), (q9, .inl (cI, 10, .inl (fun _ => 0)))]) O dX1_init_78 fo_X1_39 fp_1_9 rfl rfl rfl (Nat.le_of_ble_eq_true rfl) rfl ?_
  refine u_aload_n O dX1_init_81 rfl 0 rfl ?_
  refine u_get (q0 := 0) O dX1_init_82 fo_X1_9 rfl rfl ?_
  refine u_iconst O dX1_init_85 kc_5 ?_
  refine u_callS (w1 := [(h0, .inr (1, [.ref q1, .ref q2, .ref q3, .ref q4, .ref q5, .ref q6, .ref q7, .ref q8, .ref q9, .int 0]))]) (w2 := [(q2, .inl (cI, 120, .inl (fun _ => 0))), (q3, .inl (cI, 10, .inl (fun _ => 0))), (q4, .inl (cI, 20, .inl (fun _ => 0))), (q5, .inl (cI, 10, .inl (fun _ => 0))), (q6, .inl (cI, 10, .inl (fun _ => 0))), (q7, .inl (cI, 10, .inl (fun _ => 0))), (q8, .inl (cI, 10, .inl (fun _ => 0))), (q9, .inl (cI, 10, .inl (fun _ => 0)))]) (b := q1) (e0 := .inl (cI, 52, .inl (fun _ => 0))) (rm' := { frames := 0, cells := 0, slots := 0, locals := 0 }) (As := [.ref q1, .int 5]) (st := []) O dX1_init_86 ci_J7_fill_53178 ml_X1_43 ms_J7_fill_53178 ⟨rfl, rfl, (by decide), (by decide)⟩ rfl (Nat.le_of_ble_eq_true rfl) rfl (by decide) (fun sz => cIfill eI q1 sz 52 (by decide) 5 (fun _ => 0)) (fun w0 hw0 => ?_)
  subst hw0
  refine u_perm (ws' := [(h0, .inr (1, [.ref q1, .ref q2, .ref q3, .ref q4, .ref q5, .ref q6, .ref q7, .ref q8, .ref q9, .int 0])), (q1, .inl (cI, 52, .inl (fillN 52 5 (fun _ => 0)))), (q2, .inl (cI, 120, .inl (fun _ => 0))), (q3, .inl (cI, 10, .inl (fun _ => 0))), (q4, .inl (cI, 20, .inl (fun _ => 0))), (q5, .inl (cI, 10, .inl (fun _ => 0))), (q6, .inl (cI, 10, .inl (fun _ => 0))), (q7, .inl (cI, 10, .inl (fun _ => 0))), (q8, .inl (cI, 10, .inl (fun _ => 0))), (q9, .inl (cI, 10, .inl (fun _ => 0)))]) [0, 9, 1, 2, 3, 4, 5, 6, 7, 8] (by decide) rfl ?_
  exact u_vret O r dX1_init_89 ⟨q1, q2, q3, q4, q5, q6, q7, q8, q9, rfl⟩
theorem dX3_init_0 : decode cX3_init 0 = .ok (.aload_n 0, 1) := by decide +kernel
theorem dX3_init_1 : decode cX3_init 1 = .ok (.invokespecial 3, 3) := by decide +kernel
theorem dX3_init_4 : decode cX3_init 4 = .ok (.aload_n 0, 1) := by decide +kernel
theorem dX3_init_5 : decode cX3_init 5 = .ok (.bipush 8, 2) := by decide +kernel
theorem dX3_init_7 : decode cX3_init 7 = .ok (.newarray .int, 2) := by decide +kernel
theorem dX3_init_9 : decode cX3_init 9 = .ok (.putfield 9, 3) := by decide +kernel
theorem dX3_init_12 : decode cX3_init 12 = .ok (.aload_n 0, 1) := by decide +kernel
theorem dX3_init_13 : decode cX3_init 13 = .ok (.bipush 8, 2) := by decide +kernel
theorem dX3_init_15 : decode cX3_init 15 = .ok (.newarray .int, 2) := by decide +kernel
theorem dX3_init_17 : decode cX3_init 17 = .ok (.putfield 15, 3) := by decide +kernel
theorem dX3_init_20 : decode cX3_init 20 = .ok (.aload_n 0, 1) := by decide +kernel
theorem dX3_init_21 : decode cX3_init 21 = .ok (.bipush 32, 2) := by decide +kernel
theorem dX3_init_23 : decode cX3_init 23 = .ok (.newarray .int, 2) := by decide +kernel
theorem dX3_init_25 : decode cX3_init 25 = .ok (.putfield 18, 3) := by decide +kernel
theorem dX3_init_28 : decode cX3_init 28 = .ok (.aload_n 0, 1) := by decide +kernel
theorem dX3_init_29 : decode cX3_init 29 = .ok (.bipush 32, 2) := by decide +kernel
theorem dX3_init_31 : decode cX3_init 31 = .ok (.newarray .int, 2) := by decide +kernel
theorem dX3_init_33 : decode cX3_init 33 = .ok (.putfield 21, 3) := by decide +kernel
theorem dX3_init_36 : decode cX3_init 36 = .ok (.aload_n 0, 1) := by decide +kernel
theorem dX3_init_37 : decode cX3_init 37 = .ok (.bipush 32, 2) := by decide +kernel
theorem dX3_init_39 : decode cX3_init 39 = .ok (.newarray .int, 2) := by decide +kernel
theorem dX3_init_41 : decode cX3_init 41 = .ok (.putfield 24, 3) := by decide +kernel
theorem dX3_init_44 : decode cX3_init 44 = .ok (.aload_n 0, 1) := by decide +kernel
theorem dX3_init_45 : decode cX3_init 45 = .ok (.bipush 32, 2) := by decide +kernel
theorem dX3_init_47 : decode cX3_init 47 = .ok (.newarray .int, 2) := by decide +kernel
theorem dX3_init_49 : decode cX3_init 49 = .ok (.putfield 27, 3) := by decide +kernel
theorem dX3_init_52 : decode cX3_init 52 = .ok (.aload_n 0, 1) := by decide +kernel
theorem dX3_init_53 : decode cX3_init 53 = .ok (.bipush 32, 2) := by decide +kernel
theorem dX3_init_55 : decode cX3_init 55 = .ok (.newarray .int, 2) := by decide +kernel
theorem dX3_init_57 : decode cX3_init 57 = .ok (.putfield 30, 3) := by decide +kernel
theorem dX3_init_60 : decode cX3_init 60 = .ok (.aload_n 0, 1) := by decide +kernel
theorem dX3_init_61 : decode cX3_init 61 = .ok (.bipush 32, 2) := by decide +kernel
theorem dX3_init_63 : decode cX3_init 63 = .ok (.newarray .int, 2) := by decide +kernel
theorem dX3_init_65 : decode cX3_init 65 = .ok (.putfield 33, 3) := by decide +kernel
theorem dX3_init_68 : decode cX3_init 68 = .ok (.aload_n 0, 1) := by decide +kernel
theorem dX3_init_69 : decode cX3_init 69 = .ok (.bipush 10, 2) := by decide +kernel
theorem dX3_init_71 : decode cX3_init 71 = .ok (.newarray .int, 2) := by decide +kernel
theorem dX3_init_73 : decode cX3_init 73 = .ok (.putfield 36, 3) := by decide +kernel
theorem dX3_init_76 : decode cX3_init 76 = .ok (.aload_n 0, 1) := by decide +kernel
theorem dX3_init_77 : decode cX3_init 77 = .ok (.bipush 10, 2) := by decide +kernel
theorem dX3_init_79 : decode cX3_init 79 = .ok (.newarray .int, 2) := by decide +kernel
theorem dX3_init_81 : decode cX3_init 81 = .ok (.putfield 39, 3) := by decide +kernel
theorem dX3_init_84 : decode cX3_init 84 = .ok (.aload_n 0, 1) := by decide +kernel
theorem dX3_init_85 : decode cX3_init 85 = .ok (.iconst 0, 1) := by decide +kernel
theorem dX3_init_86 : decode cX3_init 86 = .ok (.putfield 42, 3) := by decide +kernel
theorem dX3_init_89 : decode cX3_init 89 = .ok (.aload_n 0, 1) := by decide +kernel
theorem dX3_init_90 : decode cX3_init 90 = .ok (.iconst 0, 1) := by decide +kernel
theorem dX3_init_91 : decode cX3_init 91 = .ok (.putfield 46, 3) := by decide +kernel
theorem dX3_init_94 : decode cX3_init 94 = .ok (.aload_n 0, 1) := by decide +kernel
theorem dX3_init_95 : decode cX3_init 95 = .ok (.iconst 0, 1) := by decide +kernel
theorem dX3_init_96 : decode cX3_init 96 = .ok (.putfield 49, 3) := by decide +kernel
theorem dX3_init_99 : decode cX3_init 99 = .ok (.aload_n 0, 1) := by decide +kernel
theorem dX3_init_100 : decode cX3_init 100 = .ok (.iconst 0, 1) := by decide +kernel
theorem dX3_init_101 : decode cX3_init 101 = .ok (.putfield 52, 3) := by decide +kernel
theorem dX3_init_104 : decode cX3_init 104 = .ok (.aload_n 0, 1) := by decide +kernel
theorem dX3_init_105 : decode cX3_init 105 = .ok (.iconst 0, 1) := by decide +kernel
theorem dX3_init_106 : decode cX3_init 106 = .ok (.putfield 55, 3) := by decide +kernel
theorem dX3_init_109 : decode cX3_init 109 = .ok (.return_, 1) := by decide +kernel
set_option maxHeartbeats 4000000 in
set_option maxRecDepth 100000 in
theorem cI_X3_init {Γ : Cxt} {cI cL : ClassId} (eI : Γ.2.2.1.2.1 = cI) (eL : Γ.2.2.1.2.2.1 = cL) (h0 : Nat) (sz : Nat) : MC Γ yX3_init cX3_init 1 { frames := 1, cells := 10, slots := 228, locals := 20 } [.ref h0] [(h0, .inr (3, [.null, .null, .null, .null, .null, .null, .null, .null, .null, .null, .int 0, .int 0, .int 0, .int 0, .int 0]))] sz 10 228 (fun w => ∃ (q1 q2 q3 q4 q5 q6 q7 q8 q9 q10 : Nat), w = [(h0, .inr (3, [.ref q1, .ref q2, .ref q3, .ref q4, .ref q5, .ref q6, .ref q7, .ref q8, .ref q9, .ref q10, .int 0, .int 0, .int 0, .int 0, .int 0])), (q1, .inl (cI, 8, .inl (fun _ => 0))), (q2, .inl (cI, 8, .inl (fun _ => 0))), (q3, .inl (cI, 32, .inl (fun _ => 0))), (q4, .inl (cI, 32, .inl (fun _ => 0))), (q5, .inl (cI, 32, .inl (fun _ => 0))), (q6, .inl (cI, 32, .inl (fun _ => 0))), (q7, .inl (cI, 32, .inl (fun _ => 0))), (q8, .inl (cI, 32, .inl (fun _ => 0))), (q9, .inl (cI, 10, .inl (fun _ => 0))), (q10, .inl (cI, 10, .inl (fun _ => 0)))]) := by
  refine mc_of (by decide) (Nat.le_of_ble_eq_true rfl) (fun Γ e1 e2 hI0 O r => ?_)
  have hI := hI0 rfl
  have eI := e1.trans eI
  have eL := e2.trans eL
  refine u_loc (lv' := [(0, .ref h0)]) [0] rfl ?_
  refine u_aload_n O dX3_init_0 rfl 0 rfl ?_
  refine u_obj O dX3_init_1 ol_X3_3 (by decide) (Nat.le_of_ble_eq_true rfl) ?_
  refine u_aload_n O dX3_init_4 rfl 0 rfl ?_
  refine u_bipush O dX3_init_5 kb_8 ?_
  refine u_newI (N := 8) O dX3_init_7 (by decide) (by decide) (by decide) (by decide) (fun q1 cz ez => ?_)
  have ez := eI.symm.trans ez
  subst ez
  refine u_eq (ws' := [(h0, .inr (3, [.null, .null, .null, .null, .null, .null, .null, .null, .null, .null, .int 0, .int 0, .int 0, .int 0, .int 0])), (q1, .inl (cI, 8, .inl (fun _ => 0)))]) rfl ?_
  refine u_putF (q0 := 0) (ws' := [(h0, .inr (3, [.ref q1, .null, .null, .null, .null, .null, .null, .null, .null, .null, .int 0, .int 0, .int 0, .int 0, .int 0])), (q1, .inl (cI, 8, .inl (fun _ => 0)))]) O hI dX3_init_9 fo_X3_9 ff_3_0 rfl rfl rfl rfl (Nat.le_of_ble_eq_true rfl) rfl ?_
  refine u_aload_n O dX3_init_12 rfl 0 rfl ?_
  refine u_bipush O dX3_init_13 kb_8 ?_
  refine u_newI (N := 8) O dX3_init_15 (by decide) (by decide) (by decide) (by decide) (fun q2 cz ez => ?_)
  have ez := eI.symm.trans ez
  subst ez
  refine u_eq (ws' := [(h0, .inr (3, [.ref q1, .null, .null, .null, .null, .null, .null, .null, .null, .null, .int 0, .int 0, .int 0, .int 0, .int 0])), (q1, .inl (cI, 8, .inl (fun _ => 0))), (q2, .inl (cI, 8, .inl (fun _ => 0)))]) rfl ?_
  refine u_putF (q0 := 0) (ws' := [(h0, .inr (3, [.ref q1, .ref q2, .null, .null, .null, .null, .null, .null, .null, .null, .int 0, .int 0, .int 0, .int 0, .int 0])), (q1, .inl (cI, 8, .inl (fun _ => 0))), (q2, .inl (cI, 8, .inl (fun _ => 0)))]) O hI dX3_init_17 fo_X3_15 ff_3_1 rfl rfl rfl rfl (Nat.le_of_ble_eq_true rfl) rfl ?_
  refine u_aload_n O dX3_init_20 rfl 0 rfl ?_
  refine u_bipush O dX3_init_21 kb_32 ?_
  refine u_newI (N := 32) O dX3_init_23 (by decide) (by decide) (by decide) (by decide) (fun q3 cz ez => ?_)
  have ez := eI.symm.trans ez
  subst ez
  refine u_eq (ws' := [(h0, .inr (3, [.ref q1, .ref q2, .null, .null, .null, .null, .null, .null, .null, .null, .int 0, .int 0, .int 0, .int 0, .int 0])), (q1, .inl (cI, 8, .inl (fun _ => 0))), (q2, .inl (cI, 8, .inl (fun _ => 0))), (q3, .inl (cI, 32, .inl (fun _ => 0)))]) rfl ?_
  refine u_putF (q0 := 0) (ws' := [(h0, .inr (3, [.ref q1, .ref q2, .ref q3, .null, .null, .null, .null, .null, .null, .null, .int 0, .int 0, .int 0, .int 0, .int 0])), (q1, .inl (cI, 8, .inl (fun _ => 0))), (q2, .inl (cI, 8, .inl (fun _ => 0))), (q3, .inl (cI, 32, .inl (fun _ => 0)))]) O hI dX3_init_25 fo_X3_18 ff_3_2 rfl rfl rfl rfl (Nat.le_of_ble_eq_true rfl) rfl ?_
  refine u_aload_n O dX3_init_28 rfl 0 rfl ?_
  refine u_bipush O dX3_init_29 kb_32 ?_
  refine u_newI (N := 32) O dX3_init_31 (by decide) (by decide) (by decide) (by decide) (fun q4 cz ez => ?_)
  have ez := eI.symm.trans ez
  subst ez
  refine u_eq (ws' := [(h0, .inr (3, [.ref q1, .ref q2, .ref q3, .null, .null, .null, .null, .null, .null, .null, .int 0, .int 0, .int 0, .int 0, .int 0])), (q1, .inl (cI, 8, .inl (fun _ => 0))), (q2, .inl (cI, 8, .inl (fun _ => 0))), (q3, .inl (cI, 32, .inl (fun _ => 0))), (q4, .inl (cI, 32, .inl (fun _ => 0)))]) rfl ?_
  refine u_putF (q0 := 0) (ws' := [(h0, .inr (3, [.ref q1, .ref q2, .ref q3, .ref q4, .null, .null, .null, .null, .null, .null, .int 0, .int 0, .int 0, .int 0, .int 0])), (q1, .inl (cI, 8, .inl (fun _ => 0))), (q2, .inl (cI, 8, .inl (fun _ => 0))), (q3, .inl (cI, 32, .inl (fun _ => 0))), (q4, .inl (cI, 32, .inl (fun _ => 0)))]) O hI dX3_init_33 fo_X3_21 ff_3_3 rfl rfl rfl rfl (Nat.le_of_ble_eq_true rfl) rfl ?_
  refine u_aload_n O dX3_init_36 rfl 0 rfl ?_
  refine u_bipush O dX3_init_37 kb_32 ?_
  refine u_newI (N := 32) O dX3_init_39 (by decide) (by decide) (by decide) (by decide) (fun q5 cz ez => ?_)
  have ez := eI.symm.trans ez
  subst ez
  refine u_eq (ws' := [(h0, .inr (3, [.ref q1, .ref q2, .ref q3, .ref q4, .null, .null, .null, .null, .null, .null, .int 0, .int 0, .int 0, .int 0, .int 0])), (q1, .inl (cI, 8, .inl (fun _ => 0))), (q2, .inl (cI, 8, .inl (fun _ => 0))), (q3, .inl (cI, 32, .inl (fun _ => 0))), (q4, .inl (cI, 32, .inl (fun _ => 0))), (q5, .inl (cI, 32, .inl (fun _ => 0)))]) rfl ?_
  refine u_putF (q0 := 0) (ws' := [(h0, .inr (3, [.ref q1, .ref q2, .ref q3, .ref q4, .ref q5, .null, .null, .null, .null, .null, .int 0, .int 0, .int 0, .int 0, .int 0])), (q1, .inl (cI, 8, .inl (fun _ => 0))), (q2, .inl (cI, 8, .inl (fun _ => 0))), (q3, .inl (cI, 32, .inl (fun _ => 0))), (q4, .inl (cI, 32, .inl (fun _ => 0))), (q5, .inl (cI, 32, .inl (fun _ => 0)))]) O hI dX3_init_41 fo_X3_24 ff_3_4 rfl rfl rfl rfl (Nat.le_of_ble_eq_true rfl) rfl ?_
  refine u_aload_n O dX3_init_44 rfl 0 rfl ?_
  refine u_bipush O dX3_init_45 kb_32 ?_
  refine u_newI (N := 32) O dX3_init_47 (by decide) (by decide) (by decide) (by decide) (fun q6 cz ez => ?_)
  have ez := eI.symm.trans ez
  subst ez
  refine u_eq (ws' := [(h0, .inr (3, [.ref q1, .ref q2, .ref q3, .ref q4, .ref q5, .null, .null, .null, .null, .null, .int 0, .int 0, .int 0, .int 0, .int 0])), (q1, .inl (cI, 8, .inl (fun _ => 0))), (q2, .inl (cI, 8, .inl (fun _ => 0))), (q3, .inl (cI, 32, .inl (fun _ => 0))), (q4, .inl (cI, 32, .inl (fun _ => 0))), (q5, .inl (cI, 32, .inl (fun _ => 0))), (q6, .inl (cI, 32, .inl (fun _ => 0)))]) rfl ?_
  refine u_putF (q0 := 0) (ws' := [(h0, .inr (3, [.ref q1, .ref q2, .ref q3, .ref q4, .ref q5, .ref q6, .null, .null, .null, .null, .int 0, .int 0, .int 0, .int 0, .int 0])), (q1, .inl (cI, 8, .inl (fun _ => 0))), (q2, .inl (cI, 8, .inl (fun _ => 0))), (q3, .inl (cI, 32, .inl (fun _ => 0))), (q4, .inl (cI, 32, .inl (fun _ => 0))), (q5, .inl (cI, 32, .inl (fun _ => 0))), (q6, .inl (cI, 32, .inl (fun _ => 0)))]) O hI dX3_init_49 fo_X3_27 ff_3_5 rfl rfl rfl rfl (Nat.le_of_ble_eq_true rfl) rfl ?_
  refine u_aload_n O dX3_init_52 rfl 0 rfl ?_
  refine u_bipush O dX3_init_53 kb_32 ?_
  refine u_newI (N := 32) O dX3_init_55 (by decide) (by decide) (by decide) (by decide) (fun q7 cz ez => ?_)
  have ez := eI.symm.trans ez
  subst ez
  refine u_eq (ws' := [(h0, .inr (3, [.ref q1, .ref q2, .ref q3, .ref q4, .ref q5, .ref q6, .null, .null, .null, .null, .int 0, .int 0, .int 0, .int 0, .int 0])), (q1, .inl (cI, 8, .inl (fun _ => 0))), (q2, .inl (cI, 8, .inl (fun _ => 0))), (q3, .inl (cI, 32, .inl (fun _ => 0))), (q4, .inl (cI, 32, .inl (fun _ => 0))), (q5, .inl (cI, 32, .inl (fun _ => 0))), (q6, .inl (cI, 32, .inl (fun _ => 0))), (q7, .inl (cI, 32, .inl (fun _ => 0)))]) rfl ?_
  refine u_putF (q0 := 0) (ws' := [(h0, .inr (3, [.ref q1, .ref q2, .ref q3, .ref q4, .ref q5, .ref q6, .ref q7, .null, .null, .null, .int 0, .int 0, .int 0, .int 0, .int 0])), (q1, .inl (cI, 8, .inl (fun _ => 0))), (q2, .inl (cI, 8, .inl (fun _ => 0))), (q3, .inl (cI, 32, .inl (fun _ => 0))), (q4, .inl (cI, 32, .inl (fun _ => 0))), (q5, .inl (cI, 32, .inl (fun _ => 0))), (q6, .inl (cI, 32, .inl (fun _ => 0))), (q7, .inl (cI, 32, .inl (fun _ => 0)))]) O hI dX3_init_57 fo_X3_30 ff_3_6 rfl rfl rfl rfl (Nat.le_of_ble_eq_true rfl) rfl ?_
  refine u_aload_n O dX3_init_60 rfl 0 rfl ?_
  refine u_bipush O dX3_init_61 kb_32 ?_
  refine u_newI (N := 32) O dX3_init_63 (by decide) (by decide) (by decide) (by decide) (fun q8 cz ez => ?_)
  have ez := eI.symm.trans ez
  subst ez
  refine u_eq (ws' := [(h0, .inr (3, [.ref q1, .ref q2, .ref q3, .ref q4, .ref q5, .ref q6, .ref q7, .null, .null, .null, .int 0, .int 0, .int 0, .int 0, .int 0])), (q1, .inl (cI, 8, .inl (fun _ => 0))), (q2, .inl (cI, 8, .inl (fun _ => 0))), (q3, .inl (cI, 32, .inl (fun _ => 0))), (q4, .inl (cI, 32, .inl (fun _ => 0))), (q5, .inl (cI, 32, .inl (fun _ => 0))), (q6, .inl (cI, 32, .inl (fun _ => 0))), (q7, .inl (cI, 32, .inl (fun _ => 0))), (q8, .inl (cI, 32, .inl (fun _ => 0)))]) rfl ?_
  refine u_putF (q0 := 0) (ws' := [(h0, .inr (3, [.ref q1, .ref q2, .ref q3, .ref q4, .ref q5, .ref q6, .ref q7, .ref q8, .null, .null, .int 0, .int 0, .int 0, .int 0, .int 0])), (q1, .inl (cI, 8, .inl (fun _ => 0))), (q2, .inl (cI, 8, .inl (fun _ => 0))), (q3, .inl (cI, 32, .inl (fun _ => 0))), (q4, .inl (cI, 32, .inl (fun _ => 0))), (q5, .inl (cI, 32, .inl (fun _ => 0))), (q6, .inl (cI, 32, .inl (fun _ => 0))), (q7, .inl (cI, 32, .inl (fun _ => 0))), (q8, .inl (cI, 32, .inl (fun _ => 0)))]) O hI dX3_init_65 fo_X3_33 ff_3_7 rfl rfl rfl rfl (Nat.le_of_ble_eq_true rfl) rfl ?_
  refine u_aload_n O dX3_init_68 rfl 0 rfl ?_
  refine u_bipush O dX3_init_69 kb_10 ?_
  refine u_newI (N := 10) O dX3_init_71 (by decide) (by decide) (by decide) (by decide) (fun q9 cz ez => ?_)
  have ez := eI.symm.trans ez
  subst ez
  refine u_eq (ws' := [(h0, .inr (3, [.ref q1, .ref q2, .ref q3, .ref q4, .ref q5, .ref q6, .ref q7, .ref q8, .null, .null, .int 0, .int 0, .int 0, .int 0, .int 0])), (q1, .inl (cI, 8, .inl (fun _ => 0))), (q2, .inl (cI, 8, .inl (fun _ => 0))), (q3, .inl (cI, 32, .inl (fun _ => 0))), (q4, .inl (cI, 32, .inl (fun _ => 0))), (q5, .inl (cI, 32, .inl (fun _ => 0))), (q6, .inl (cI, 32, .inl (fun _ => 0))), (q7, .inl (cI, 32, .inl (fun _ => 0))), (q8, .inl (cI, 32, .inl (fun _ => 0))), (q9, .inl (cI, 10, .inl (fun _ => 0)))]) rfl ?_
  refine u_putF (q0 := 0) (ws' := [(h0, .inr (3, [.ref q1, .ref q2, .ref q3, .ref q4, .ref q5, .ref q6, .ref q7, .ref q8, .ref q9, .null, .int 0, .int 0, .int 0, .int 0, .int 0])), (q1, .inl (cI, 8, .inl (fun _ => 0))), (q2, .inl (cI, 8, .inl (fun _ => 0))), (q3, .inl (cI, 32, .inl (fun _ => 0))), (q4, .inl (cI, 32, .inl (fun _ => 0))), (q5, .inl (cI, 32, .inl (fun _ => 0))), (q6, .inl (cI, 32, .inl (fun _ => 0))), (q7, .inl (cI, 32, .inl (fun _ => 0))), (q8, .inl (cI, 32, .inl (fun _ => 0))), (q9, .inl (cI, 10, .inl (fun _ => 0)))]) O hI dX3_init_73 fo_X3_36 ff_3_8 rfl rfl rfl rfl (Nat.le_of_ble_eq_true rfl) rfl ?_
  refine u_aload_n O dX3_init_76 rfl 0 rfl ?_
  refine u_bipush O dX3_init_77 kb_10 ?_
  refine u_newI (N := 10) O dX3_init_79 (by decide) (by decide) (by decide) (by decide) (fun q10 cz ez => ?_)
  have ez := eI.symm.trans ez
  subst ez
  refine u_eq (ws' := [(h0, .inr (3, [.ref q1, .ref q2, .ref q3, .ref q4, .ref q5, .ref q6, .ref q7, .ref q8, .ref q9, .null, .int 0, .int 0, .int 0, .int 0, .int 0])), (q1, .inl (cI, 8, .inl (fun _ => 0))), (q2, .inl (cI, 8, .inl (fun _ => 0))), (q3, .inl (cI, 32, .inl (fun _ => 0))), (q4, .inl (cI, 32, .inl (fun _ => 0))), (q5, .inl (cI, 32, .inl (fun _ => 0))), (q6, .inl (cI, 32, .inl (fun _ => 0))), (q7, .inl (cI, 32, .inl (fun _ => 0))), (q8, .inl (cI, 32, .inl (fun _ => 0))), (q9, .inl (cI, 10, .inl (fun _ => 0))), (q10, .inl (cI, 10, .inl (fun _ => 0)))]) rfl ?_
  refine u_putF (q0 := 0) (ws' := [(h0, .inr (3, [.ref q1, .ref q2, .ref q3, .ref q4, .ref q5, .ref q6, .ref q7, .ref q8, .ref q9, .ref q10, .int 0, .int 0, .int 0, .int 0, .int 0])), (q1, .inl (cI, 8, .inl (fun _ => 0))), (q2, .inl (cI, 8, .inl (fun _ => 0))), (q3, .inl (cI, 32, .inl (fun _ => 0))), (q4, .inl (cI, 32, .inl (fun _ => 0))), (q5, .inl (cI, 32, .inl (fun _ => 0))), (q6, .inl (cI, 32, .inl (fun _ => 0))), (q7, .inl (cI, 32, .inl (fun _ => 0))), (q8, .inl (cI, 32, .inl (fun _ => 0))), (q9, .inl (cI, 10, .inl (fun _ => 0))), (q10, .inl (cI, 10, .inl (fun _ => 0)))]) O hI dX3_init_81 fo_X3_39 ff_3_9 rfl rfl rfl rfl (Nat.le_of_ble_eq_true rfl) rfl ?_
  refine u_aload_n O dX3_init_84 rfl 0 rfl ?_
  refine u_iconst O dX3_init_85 kc_0 ?_
  refine u_put (q0 := 0) (ws' := [(h0, .inr (3, [.ref q1, .ref q2, .ref q3, .ref q4, .ref q5, .ref q6, .ref q7, .ref q8, .ref q9, .ref q10, .int 0, .int 0, .int 0, .int 0, .int 0])), (q1, .inl (cI, 8, .inl (fun _ => 0))), (q2, .inl (cI, 8, .inl (fun _ => 0))), (q3, .inl (cI, 32, .inl (fun _ => 0))), (q4, .inl (cI, 32, .inl (fun _ => 0))), (q5, .inl (cI, 32, .inl (fun _ => 0))), (q6, .inl (cI, 32, .inl (fun _ => 0))), (q7, .inl (cI, 32, .inl (fun _ => 0))), (q8, .inl (cI, 32, .inl (fun _ => 0))), (q9, .inl (cI, 10, .inl (fun _ => 0))), (q10, .inl (cI, 10, .inl (fun _ => 0)))]) O dX3_init_86 fo_X3_42 fp_3_10 rfl rfl rfl (Nat.le_of_ble_eq_true rfl) rfl ?_
  refine u_aload_n O dX3_init_89 rfl 0 rfl ?_
  refine u_iconst O dX3_init_90 kc_0 ?_
  refine u_put (q0 := 0) (ws' := [(h0, .inr (3, [.ref q1, .ref q2, .ref q3, .ref q4, .ref q5, .ref q6, .ref q7, .ref q8, .ref q9, .ref q10, .int 0, .int 0, .int 0, .int 0, .int 0])), (q1, .inl (cI, 8, .inl (fun _ => 0))), (q2, .inl (cI, 8, .inl (fun _ => 0))), (q3, .inl (cI, 32, .inl (fun _ => 0))), (q4, .inl (cI, 32, .inl (fun _ => 0))), (q5, .inl (cI, 32, .inl (fun _ => 0))), (q6, .inl (cI, 32, .inl (fun _ => 0))), (q7, .inl (cI, 32, .inl (fun _ => 0))), (q8, .inl (cI, 32, .inl (fun _ => 0))), (q9, .inl (cI, 10, .inl (fun _ => 0))), (q10, .inl (cI, 10, .inl (fun _ => 0)))]) O dX3_init_91 fo_X3_46 fp_3_11 rfl rfl rfl (Nat.le_of_ble_eq_true rfl) rfl ?_
  refine u_aload_n O dX3_init_94 rfl 0 rfl ?_
  refine u_iconst O dX3_init_95 kc_0 ?_
  refine u_put (q0 := 0) (ws' := [(h0, .inr (3, [.ref q1, .ref q2, .ref q3, .ref q4, .ref q5, .ref q6, .ref q7, .ref q8, .ref q9, .ref q10, .int 0, .int 0, .int 0, .int 0, .int 0])), (q1, .inl (cI, 8, .inl (fun _ => 0))), (q2, .inl (cI, 8, .inl (fun _ => 0))), (q3, .inl (cI, 32, .inl (fun _ => 0))), (q4, .inl (cI, 32, .inl (fun _ => 0))), (q5, .inl (cI, 32, .inl (fun _ => 0))), (q6, .inl (cI, 32, .inl (fun _ => 0))), (q7, .inl (cI, 32, .inl (fun _ => 0))), (q8, .inl (cI, 32, .inl (fun _ => 0))), (q9, .inl (cI, 10, .inl (fun _ => 0))), (q10, .inl (cI, 10, .inl (fun _ => 0)))]) O dX3_init_96 fo_X3_49 fp_3_12 rfl rfl rfl (Nat.le_of_ble_eq_true rfl) rfl ?_
  refine u_aload_n O dX3_init_99 rfl 0 rfl ?_
  refine u_iconst O dX3_init_100 kc_0 ?_
  refine u_put (q0 := 0) (ws' := [(h0, .inr (3, [.ref q1, .ref q2, .ref q3, .ref q4, .ref q5, .ref q6, .ref q7, .ref q8, .ref q9, .ref q10, .int 0, .int 0, .int 0, .int 0, .int 0])), (q1, .inl (cI, 8, .inl (fun _ => 0))), (q2, .inl (cI, 8, .inl (fun _ => 0))), (q3, .inl (cI, 32, .inl (fun _ => 0))), (q4, .inl (cI, 32, .inl (fun _ => 0))), (q5, .inl (cI, 32, .inl (fun _ => 0))), (q6, .inl (cI, 32, .inl (fun _ => 0))), (q7, .inl (cI, 32, .inl (fun _ => 0))), (q8, .inl (cI, 32, .inl (fun _ => 0))), (q9, .inl (cI, 10, .inl (fun _ => 0))), (q10, .inl (cI, 10, .inl (fun _ => 0)))]) O dX3_init_101 fo_X3_52 fp_3_13 rfl rfl rfl (Nat.le_of_ble_eq_true rfl) rfl ?_
  refine u_aload_n O dX3_init_104 rfl 0 rfl ?_
  refine u_iconst O dX3_init_105 kc_0 ?_
  refine u_put (q0 := 0) (ws' := [(h0, .inr (3, [.ref q1, .ref q2, .ref q3, .ref q4, .ref q5, .ref q6, .ref q7, .ref q8, .ref q9, .ref q10, .int 0, .int 0, .int 0, .int 0, .int 0])), (q1, .inl (cI, 8, .inl (fun _ => 0))), (q2, .inl (cI, 8, .inl (fun _ => 0))), (q3, .inl (cI, 32, .inl (fun _ => 0))), (q4, .inl (cI, 32, .inl (fun _ => 0))), (q5, .inl (cI, 32, .inl (fun _ => 0))), (q6, .inl (cI, 32, .inl (fun _ => 0))), (q7, .inl (cI, 32, .inl (fun _ => 0))), (q8, .inl (cI, 32, .inl (fun _ => 0))), (q9, .inl (cI, 10, .inl (fun _ => 0))), (q10, .inl (cI, 10, .inl (fun _ => 0)))]) O dX3_init_106 fo_X3_55 fp_3_14 rfl rfl rfl (Nat.le_of_ble_eq_true rfl) rfl ?_
  exact u_vret O r dX3_init_109 ⟨q1, q2, q3, q4, q5, q6, q7, q8, q9, q10, rfl⟩
theorem dX2_init_0 : decode cX2_init 0 = .ok (.aload_n 0, 1) := by decide +kernel
theorem dX2_init_1 : decode cX2_init 1 = .ok (.invokespecial 3, 3) := by decide +kernel
theorem dX2_init_4 : decode cX2_init 4 = .ok (.aload_n 0, 1) := by decide +kernel
theorem dX2_init_5 : decode cX2_init 5 = .ok (.iconst 4, 1) := by decide +kernel
theorem dX2_init_6 : decode cX2_init 6 = .ok (.newarray .int, 2) := by decide +kernel
theorem dX2_init_8 : decode cX2_init 8 = .ok (.putfield 9, 3) := by decide +kernel
theorem dX2_init_11 : decode cX2_init 11 = .ok (.aload_n 0, 1) := by decide +kernel
theorem dX2_init_12 : decode cX2_init 12 = .ok (.iconst 4, 1) := by decide +kernel
theorem dX2_init_13 : decode cX2_init 13 = .ok (.newarray .int, 2) := by decide +kernel
theorem dX2_init_15 : decode cX2_init 15 = .ok (.putfield 15, 3) := by decide +kernel
theorem dX2_init_18 : decode cX2_init 18 = .ok (.aload_n 0, 1) := by decide +kernel
theorem dX2_init_19 : decode cX2_init 19 = .ok (.iconst 4, 1) := by decide +kernel
theorem dX2_init_20 : decode cX2_init 20 = .ok (.newarray .int, 2) := by decide +kernel
theorem dX2_init_22 : decode cX2_init 22 = .ok (.putfield 18, 3) := by decide +kernel
theorem dX2_init_25 : decode cX2_init 25 = .ok (.aload_n 0, 1) := by decide +kernel
theorem dX2_init_26 : decode cX2_init 26 = .ok (.aload_n 1, 1) := by decide +kernel
theorem dX2_init_27 : decode cX2_init 27 = .ok (.putfield 21, 3) := by decide +kernel
theorem dX2_init_30 : decode cX2_init 30 = .ok (.aload_n 0, 1) := by decide +kernel
theorem dX2_init_31 : decode cX2_init 31 = .ok (.aload_n 2, 1) := by decide +kernel
theorem dX2_init_32 : decode cX2_init 32 = .ok (.putfield 25, 3) := by decide +kernel
theorem dX2_init_35 : decode cX2_init 35 = .ok (.return_, 1) := by decide +kernel
set_option maxHeartbeats 4000000 in
set_option maxRecDepth 100000 in
theorem cI_X2_init {Γ : Cxt} {cI cL : ClassId} (eI : Γ.2.2.1.2.1 = cI) (eL : Γ.2.2.1.2.2.1 = cL) (h0 : Nat) (r0 r1 : Nat) (sz : Nat) : MC Γ yX2_init cX2_init 3 { frames := 1, cells := 3, slots := 12, locals := 20 } [.ref h0, .ref r0, .ref r1] [(h0, .inr (2, [.null, .null, .null, .null, .null, .int 0, .int 0, .int 0, .int 0, .int 0, .int 0, .int 0, .int 0]))] sz 3 12 (fun w => ∃ (q1 q2 q3 : Nat), w = [(h0, .inr (2, [.ref r0, .ref r1, .ref q1, .ref q2, .ref q3, .int 0, .int 0, .int 0, .int 0, .int 0, .int 0, .int 0, .int 0])), (q1, .inl (cI, 4, .inl (fun _ => 0))), (q2, .inl (cI, 4, .inl (fun _ => 0))), (q3, .inl (cI, 4, .inl (fun _ => 0)))]) := by
  refine mc_of (by decide) (Nat.le_of_ble_eq_true rfl) (fun Γ e1 e2 hI0 O r => ?_)
  have hI := hI0 rfl
  have eI := e1.trans eI
  have eL := e2.trans eL
  refine u_loc (lv' := [(0, .ref h0), (1, .ref r0), (2, .ref r1)]) [0, 1, 2] rfl ?_
  refine u_aload_n O dX2_init_0 rfl 0 rfl ?_
  refine u_obj O dX2_init_1 ol_X2_3 (by decide) (Nat.le_of_ble_eq_true rfl) ?_
  refine u_aload_n O dX2_init_4 rfl 0 rfl ?_
  refine u_iconst O dX2_init_5 kc_4 ?_
  refine u_newI (N := 4) O dX2_init_6 (by decide) (by decide) (by decide) (by decide) (fun q1 cz ez => ?_)
  have ez := eI.symm.trans ez
  subst ez
  refine u_eq (ws' := [(h0, .inr (2, [.null, .null, .null, .null, .null, .int 0, .int 0, .int 0, .int 0, .int 0, .int 0, .int 0, .int 0])), (q1, .inl (cI, 4, .inl (fun _ => 0)))]) rfl ?_
  refine u_putF (q0 := 0) (ws' := [(h0, .inr (2, [.null, .null, .ref q1, .null, .null, .int 0, .int 0, .int 0, .int 0, .int 0, .int 0, .int 0, .int 0])), (q1, .inl (cI, 4, .inl (fun _ => 0)))]) O hI dX2_init_8 fo_X2_9 ff_2_2 rfl rfl rfl rfl (Nat.le_of_ble_eq_true rfl) rfl ?_
  refine u_aload_n O dX2_init_11 rfl 0 rfl ?_
  refine u_iconst O dX2_init_12 kc_4 ?_
  refine u_newI (N := 4) O dX2_init_13 (by decide) (by decide) (by decide) (by decide) (fun q2 cz ez => ?_)
  have ez := eI.symm.trans ez
  subst ez
  refine u_eq (ws' := [(h0, .inr (2, [.null, .null, .ref q1, .null, .null, .int 0, .int 0, .int 0, .int 0, .int 0, .int 0, .int 0, .int 0])), (q1, .inl (cI, 4, .inl (fun _ => 0))), (q2, .inl (cI, 4, .inl (fun _ => 0)))]) rfl ?_
  refine u_putF (q0 := 0) (ws' := [(h0, .inr (2, [.null, .null, .ref q1, .ref q2, .null, .int 0, .int 0, .int 0, .int 0, .int 0, .int 0, .int 0, .int 0])), (q1, .inl (cI, 4, .inl (fun _ => 0))), (q2, .inl (cI, 4, .inl (fun _ => 0)))]) O hI dX2_init_15 fo_X2_15 ff_2_3 rfl rfl rfl rfl (Nat.le_of_ble_eq_true rfl) rfl ?_
  refine u_aload_n O dX2_init_18 rfl 0 rfl ?_
  refine u_iconst O dX2_init_19 kc_4 ?_
  refine u_newI (N := 4) O dX2_init_20 (by decide) (by decide) (by decide) (by decide) (fun q3 cz ez => ?_)
  have ez := eI.symm.trans ez
  subst ez
  refine u_eq (ws' := [(h0, .inr (2, [.null, .null, .ref q1, .ref q2, .null, .int 0, .int 0, .int 0, .int 0, .int 0, .int 0, .int 0, .int 0])), (q1, .inl (cI, 4, .inl (fun _ => 0))), (q2, .inl (cI, 4, .inl (fun _ => 0))), (q3, .inl (cI, 4, .inl (fun _ => 0)))]) rfl ?_
  refine u_putF (q0 := 0) (ws' := [(h0, .inr (2, [.null, .null, .ref q1, .ref q2, .ref q3, .int 0, .int 0, .int 0, .int 0, .int 0, .int 0, .int 0, .int 0])), (q1, .inl (cI, 4, .inl (fun _ => 0))), (q2, .inl (cI, 4, .inl (fun _ => 0))), (q3, .inl (cI, 4, .inl (fun _ => 0)))]) O hI dX2_init_22 fo_X2_18 ff_2_4 rfl rfl rfl rfl (Nat.le_of_ble_eq_true rfl) rfl ?_
  refine u_aload_n O dX2_init_25 rfl 0 rfl ?_
  refine u_aload_n O dX2_init_26 rfl 1 rfl ?_
  refine u_putF (q0 := 0) (ws' := [(h0, .inr (2, [.ref r0, .null, .ref q1, .ref q2, .ref q3, .int 0, .int 0, .int 0, .int 0, .int 0, .int 0, .int 0, .int 0])), (q1, .inl (cI, 4, .inl (fun _ => 0))), (q2, .inl (cI, 4, .inl (fun _ => 0))), (q3, .inl (cI, 4, .inl (fun _ => 0)))]) O hI dX2_init_27 fo_X2_21 ff_2_0 rfl rfl rfl rfl (Nat.le_of_ble_eq_true rfl) rfl ?_
  refine u_aload_n O dX2_init_30 rfl 0 rfl ?_
  refine u_aload_n O dX2_init_31 rfl 2 rfl ?_
  refine u_putF (q0 := 0) (ws' := [(h0, .inr (2, [.ref r0, .ref r1, .ref q1, .ref q2, .ref q3, .int 0, .int 0, .int 0, .int 0, .int 0, .int 0, .int 0, .int 0])), (q1, .inl (cI, 4, .inl (fun _ => 0))), (q2, .inl (cI, 4, .inl (fun _ => 0))), (q3, .inl (cI, 4, .inl (fun _ => 0)))]) O hI dX2_init_32 fo_X2_25 ff_2_1 rfl rfl rfl rfl (Nat.le_of_ble_eq_true rfl) rfl ?_
  exact u_vret O r dX2_init_35 ⟨q1, q2, q3, rfl⟩
theorem dX4_init_0 : decode cX4_init 0 = .ok (.aload_n 0, 1) := by decide +kernel
theorem dX4_init_1 : decode cX4_init 1 = .ok (.invokespecial 3, 3) := by decide +kernel
theorem dX4_init_4 : decode cX4_init 4 = .ok (.aload_n 0, 1) := by decide +kernel
theorem dX4_init_5 : decode cX4_init 5 = .ok (.iconst 4, 1) := by decide +kernel
theorem dX4_init_6 : decode cX4_init 6 = .ok (.newarray .int, 2) := by decide +kernel
theorem dX4_init_8 : decode cX4_init 8 = .ok (.putfield 9, 3) := by decide +kernel
theorem dX4_init_11 : decode cX4_init 11 = .ok (.aload_n 0, 1) := by decide +kernel
theorem dX4_init_12 : decode cX4_init 12 = .ok (.bipush 40, 2) := by decide +kernel
theorem dX4_init_14 : decode cX4_init 14 = .ok (.newarray .int, 2) := by decide +kernel
theorem dX4_init_16 : decode cX4_init 16 = .ok (.putfield 15, 3) := by decide +kernel
theorem dX4_init_19 : decode cX4_init 19 = .ok (.aload_n 0, 1) := by decide +kernel
theorem dX4_init_20 : decode cX4_init 20 = .ok (.getfield 15, 3) := by decide +kernel
theorem dX4_init_23 : decode cX4_init 23 = .ok (.iconst (-1), 1) := by decide +kernel
theorem dX4_init_24 : decode cX4_init 24 = .ok (.invokestatic 18, 3) := by decide +kernel
theorem dX4_init_27 : decode cX4_init 27 = .ok (.return_, 1) := by decide +kernel
set_option maxHeartbeats 4000000 in
set_option maxRecDepth 100000 in
theorem cI_X4_init {Γ : Cxt} {cI cL : ClassId} (eI : Γ.2.2.1.2.1 = cI) (eL : Γ.2.2.1.2.2.1 = cL) (h0 : Nat) (sz : Nat) : MC Γ yX4_init cX4_init 1 { frames := 1, cells := 2, slots := 44, locals := 23 } [.ref h0] [(h0, .inr (4, [.null, .null]))] sz 2 44 (fun w => ∃ (q1 q2 : Nat), w = [(h0, .inr (4, [.ref q1, .ref q2])), (q1, .inl (cI, 4, .inl (fun _ => 0))), (q2, .inl (cI, 40, .inl (fillN 40 (-1) (fun _ => 0))))]) := by
  refine mc_of (by decide) (Nat.le_of_ble_eq_true rfl) (fun Γ e1 e2 hI0 O r => ?_)
  have hI := hI0 rfl
  have eI := e1.trans eI
  have eL := e2.trans eL
  refine u_loc (lv' := [(0, .ref h0)]) [0] rfl ?_
  refine u_aload_n O dX4_init_0 rfl 0 rfl ?_
  refine u_obj O dX4_init_1 ol_X4_3 (by decide) (Nat.le_of_ble_eq_true rfl) ?_
  refine u_aload_n O dX4_init_4 rfl 0 rfl ?_
  refine u_iconst O dX4_init_5 kc_4 ?_
  refine u_newI (N := 4) O dX4_init_6 (by decide) (by decide) (by decide) (by decide) (fun q1 cz ez => ?_)
  have ez := eI.symm.trans ez
  subst ez
  refine u_eq (ws' := [(h0, .inr (4, [.null, .null])), (q1, .inl (cI, 4, .inl (fun _ => 0)))]) rfl ?_
  refine u_putF (q0 := 0) (ws' := [(h0, .inr (4, [.ref q1, .null])), (q1, .inl (cI, 4, .inl (fun _ => 0)))]) O hI dX4_init_8 fo_X4_9 ff_4_0 rfl rfl rfl rfl (Nat.le_of_ble_eq_true rfl) rfl ?_
  refine u_aload_n O dX4_init_11 rfl 0 rfl ?_
  refine u_bipush O dX4_init_12 kb_40 ?_
  refine u_newI (N := 40) O dX4_init_14 (by decide) (by decide) (by decide) (by decide) (fun q2 cz ez => ?_)
  have ez := eI.symm.trans ez
  subst ez
  refine u_eq (ws' := [(h0, .inr (4, [.ref q1, .null])), (q1, .inl (cI, 4, .inl (fun _ => 0))), (q2, .inl (cI, 40, .inl (fun _ => 0)))]) rfl ?_
  refine u_putF (q0 := 0) (ws' := [(h0, .inr (4, [.ref q1, .ref q2])), (q1, .inl (cI, 4, .inl (fun _ => 0))), (q2, .inl (cI, 40, .inl (fun _ => 0)))]) O hI dX4_init_16 fo_X4_15 ff_4_1 rfl rfl rfl rfl (Nat.le_of_ble_eq_true rfl) rfl ?_
  refine u_aload_n O dX4_init_19 rfl 0 rfl ?_
  refine u_get (q0 := 0) O dX4_init_20 fo_X4_15 rfl rfl ?_
  refine u_iconst O dX4_init_23 kc_m1 ?_
  refine u_callS (w1 := [(h0, .inr (4, [.ref q1, .ref q2])), (q1, .inl (cI, 4, .inl (fun _ => 0)))]) (w2 := []) (b := q2) (e0 := .inl (cI, 40, .inl (fun _ => 0))) (rm' := { frames := 0, cells := 0, slots := 0, locals := 0 }) (As := [.ref q2, .int (-1)]) (st := []) O dX4_init_24 ci_J7_fill_53178 ml_X4_18 ms_J7_fill_53178 ⟨rfl, rfl, (by decide), (by decide)⟩ rfl (Nat.le_of_ble_eq_true rfl) rfl (by decide) (fun sz => cIfill eI q2 sz 40 (by decide) (-1) (fun _ => 0)) (fun w0 hw0 => ?_)
  subst hw0
  refine u_perm (ws' := [(h0, .inr (4, [.ref q1, .ref q2])), (q1, .inl (cI, 4, .inl (fun _ => 0))), (q2, .inl (cI, 40, .inl (fillN 40 (-1) (fun _ => 0))))]) [0, 1, 2] (by decide) rfl ?_
  exact u_vret O r dX4_init_27 ⟨q1, q2, rfl⟩
theorem dX6_init_0 : decode cX6_init 0 = .ok (.aload_n 0, 1) := by decide +kernel
theorem dX6_init_1 : decode cX6_init 1 = .ok (.invokespecial 3, 3) := by decide +kernel
theorem dX6_init_4 : decode cX6_init 4 = .ok (.aload_n 0, 1) := by decide +kernel
theorem dX6_init_5 : decode cX6_init 5 = .ok (.bipush 18, 2) := by decide +kernel
theorem dX6_init_7 : decode cX6_init 7 = .ok (.newarray .int, 2) := by decide +kernel
theorem dX6_init_9 : decode cX6_init 9 = .ok (.putfield 9, 3) := by decide +kernel
theorem dX6_init_12 : decode cX6_init 12 = .ok (.aload_n 0, 1) := by decide +kernel
theorem dX6_init_13 : decode cX6_init 13 = .ok (.bipush 18, 2) := by decide +kernel
theorem dX6_init_15 : decode cX6_init 15 = .ok (.newarray .int, 2) := by decide +kernel
theorem dX6_init_17 : decode cX6_init 17 = .ok (.putfield 15, 3) := by decide +kernel
theorem dX6_init_20 : decode cX6_init 20 = .ok (.aload_n 0, 1) := by decide +kernel
theorem dX6_init_21 : decode cX6_init 21 = .ok (.bipush 18, 2) := by decide +kernel
theorem dX6_init_23 : decode cX6_init 23 = .ok (.newarray .int, 2) := by decide +kernel
theorem dX6_init_25 : decode cX6_init 25 = .ok (.putfield 18, 3) := by decide +kernel
theorem dX6_init_28 : decode cX6_init 28 = .ok (.aload_n 0, 1) := by decide +kernel
theorem dX6_init_29 : decode cX6_init 29 = .ok (.iconst 0, 1) := by decide +kernel
theorem dX6_init_30 : decode cX6_init 30 = .ok (.putfield 21, 3) := by decide +kernel
theorem dX6_init_33 : decode cX6_init 33 = .ok (.return_, 1) := by decide +kernel
set_option maxHeartbeats 4000000 in
set_option maxRecDepth 100000 in
theorem cI_X6_init {Γ : Cxt} {cI cL : ClassId} (eI : Γ.2.2.1.2.1 = cI) (eL : Γ.2.2.1.2.2.1 = cL) (h0 : Nat) (sz : Nat) : MC Γ yX6_init cX6_init 1 { frames := 1, cells := 3, slots := 54, locals := 20 } [.ref h0] [(h0, .inr (6, [.null, .null, .null, .int 0]))] sz 3 54 (fun w => ∃ (q1 q2 q3 : Nat), w = [(h0, .inr (6, [.ref q1, .ref q2, .ref q3, .int 0])), (q1, .inl (cI, 18, .inl (fun _ => 0))), (q2, .inl (cI, 18, .inl (fun _ => 0))), (q3, .inl (cI, 18, .inl (fun _ => 0)))]) := by
  refine mc_of (by decide) (Nat.le_of_ble_eq_true rfl) (fun Γ e1 e2 hI0 O r => ?_)
  have hI := hI0 rfl
  have eI := e1.trans eI
  have eL := e2.trans eL
  refine u_loc (lv' := [(0, .ref h0)]) [0] rfl ?_
  refine u_aload_n O dX6_init_0 rfl 0 rfl ?_
  refine u_obj O dX6_init_1 ol_X6_3 (by decide) (Nat.le_of_ble_eq_true rfl) ?_
  refine u_aload_n O dX6_init_4 rfl 0 rfl ?_
  refine u_bipush O dX6_init_5 kb_18 ?_
  refine u_newI (N := 18) O dX6_init_7 (by decide) (by decide) (by decide) (by decide) (fun q1 cz ez => ?_)
  have ez := eI.symm.trans ez
  subst ez
  refine u_eq (ws' := [(h0, .inr (6, [.null, .null, .null, .int 0])), (q1, .inl (cI, 18, .inl (fun _ => 0)))]) rfl ?_
  refine u_putF (q0 := 0) (ws' := [(h0, .inr (6, [.ref q1, .null, .null, .int 0])), (q1, .inl (cI, 18, .inl (fun _ => 0)))]) O hI dX6_init_9 fo_X6_9 ff_6_0 rfl rfl rfl rfl (Nat.le_of_ble_eq_true rfl) rfl ?_
  refine u_aload_n O dX6_init_12 rfl 0 rfl ?_
  refine u_bipush O dX6_init_13 kb_18 ?_
  refine u_newI (N := 18) O dX6_init_15 (by decide) (by decide) (by decide) (by decide) (fun q2 cz ez => ?_)
  have ez := eI.symm.trans ez
  subst ez
  refine u_eq (ws' := [(h0, .inr (6, [.ref q1, .null, .null, .int 0])), (q1, .inl (cI, 18, .inl (fun _ => 0))), (q2, .inl (cI, 18, .inl (fun _ => 0)))]) rfl ?_
  refine u_putF (q0 := 0) (ws' := [(h0, .inr (6, [.ref q1, .ref q2, .null, .int 0])), (q1, .inl (cI, 18, .inl (fun _ => 0))), (q2, .inl (cI, 18, .inl (fun _ => 0)))]) O hI dX6_init_17 fo_X6_15 ff_6_1 rfl rfl rfl rfl (Nat.le_of_ble_eq_true rfl) rfl ?_
  refine u_aload_n O dX6_init_20 rfl 0 rfl ?_
  refine u_bipush O dX6_init_21 kb_18 ?_
  refine u_newI (N := 18) O dX6_init_23 (by decide) (by decide) (by decide) (by decide) (fun q3 cz ez => ?_)
  have ez := eI.symm.trans ez
  subst ez
  refine u_eq (ws' := [(h0, .inr (6, [.ref q1, .ref q2, .null, .int 0])), (q1, .inl (cI, 18, .inl (fun _ => 0))), (q2, .inl (cI, 18, .inl (fun _ => 0))), (q3, .inl (cI, 18, .inl (fun _ => 0)))]) rfl ?_
  refine u_putF (q0 := 0) (ws' := [(h0, .inr (6, [.ref q1, .ref q2, .ref q3, .int 0])), (q1, .inl (cI, 18, .inl (fun _ => 0))), (q2, .inl (cI, 18, .inl (fun _ => 0))), (q3, .inl (cI, 18, .inl (fun _ => 0)))]) O hI dX6_init_25 fo_X6_18 ff_6_2 rfl rfl rfl rfl (Nat.le_of_ble_eq_true rfl) rfl ?_
  refine u_aload_n O dX6_init_28 rfl 0 rfl ?_
  refine u_iconst O dX6_init_29 kc_0 ?_
  refine u_put (q0 := 0) (ws' := [(h0, .inr (6, [.ref q1, .ref q2, .ref q3, .int 0])), (q1, .inl (cI, 18, .inl (fun _ => 0))), (q2, .inl (cI, 18, .inl (fun _ => 0))), (q3, .inl (cI, 18, .inl (fun _ => 0)))]) O dX6_init_30 fo_X6_21 fp_6_3 rfl rfl rfl (Nat.le_of_ble_eq_true rfl) rfl ?_
  exact u_vret O r dX6_init_33 ⟨q1, q2, q3, rfl⟩
theorem dX0_init_0 : decode cX0_init 0 = .ok (.aload_n 0, 1) := by decide +kernel
theorem dX0_init_1 : decode cX0_init 1 = .ok (.invokespecial 3, 3) := by decide +kernel
theorem dX0_init_4 : decode cX0_init 4 = .ok (.aload_n 0, 1) := by decide +kernel
theorem dX0_init_5 : decode cX0_init 5 = .ok (.bipush 32, 2) := by decide +kernel
theorem dX0_init_7 : decode cX0_init 7 = .ok (.newarray .int, 2) := by decide +kernel
theorem dX0_init_9 : decode cX0_init 9 = .ok (.putfield 9, 3) := by decide +kernel
theorem dX0_init_12 : decode cX0_init 12 = .ok (.aload_n 0, 1) := by decide +kernel
theorem dX0_init_13 : decode cX0_init 13 = .ok (.bipush 8, 2) := by decide +kernel
theorem dX0_init_15 : decode cX0_init 15 = .ok (.newarray .int, 2) := by decide +kernel
theorem dX0_init_17 : decode cX0_init 17 = .ok (.putfield 15, 3) := by decide +kernel
theorem dX0_init_20 : decode cX0_init 20 = .ok (.aload_n 0, 1) := by decide +kernel
theorem dX0_init_21 : decode cX0_init 21 = .ok (.bipush 10, 2) := by decide +kernel
theorem dX0_init_23 : decode cX0_init 23 = .ok (.newarray .int, 2) := by decide +kernel
theorem dX0_init_25 : decode cX0_init 25 = .ok (.putfield 18, 3) := by decide +kernel
theorem dX0_init_28 : decode cX0_init 28 = .ok (.aload_n 0, 1) := by decide +kernel
theorem dX0_init_29 : decode cX0_init 29 = .ok (.aload_n 1, 1) := by decide +kernel
theorem dX0_init_30 : decode cX0_init 30 = .ok (.putfield 21, 3) := by decide +kernel
theorem dX0_init_33 : decode cX0_init 33 = .ok (.aload_n 0, 1) := by decide +kernel
theorem dX0_init_34 : decode cX0_init 34 = .ok (.aload_n 2, 1) := by decide +kernel
theorem dX0_init_35 : decode cX0_init 35 = .ok (.putfield 25, 3) := by decide +kernel
theorem dX0_init_38 : decode cX0_init 38 = .ok (.aload_n 0, 1) := by decide +kernel
theorem dX0_init_39 : decode cX0_init 39 = .ok (.aload_n 3, 1) := by decide +kernel
theorem dX0_init_40 : decode cX0_init 40 = .ok (.putfield 29, 3) := by decide +kernel
theorem dX0_init_43 : decode cX0_init 43 = .ok (.return_, 1) := by decide +kernel
set_option maxHeartbeats 4000000 in
set_option maxRecDepth 100000 in
theorem cI_X0_init {Γ : Cxt} {cI cL : ClassId} (eI : Γ.2.2.1.2.1 = cI) (eL : Γ.2.2.1.2.2.1 = cL) (h0 : Nat) (r0 r1 r2 : Nat) (sz : Nat) : MC Γ yX0_init cX0_init 4 { frames := 1, cells := 3, slots := 50, locals := 20 } [.ref h0, .ref r0, .ref r1, .ref r2] [(h0, .inr (0, [.null, .null, .null, .null, .null, .null]))] sz 3 50 (fun w => ∃ (q1 q2 q3 : Nat), w = [(h0, .inr (0, [.ref r0, .ref r1, .ref r2, .ref q1, .ref q2, .ref q3])), (q1, .inl (cI, 32, .inl (fun _ => 0))), (q2, .inl (cI, 8, .inl (fun _ => 0))), (q3, .inl (cI, 10, .inl (fun _ => 0)))]) := by
  refine mc_of (by decide) (Nat.le_of_ble_eq_true rfl) (fun Γ e1 e2 hI0 O r => ?_)
  have hI := hI0 rfl
  have eI := e1.trans eI
  have eL := e2.trans eL
  refine u_loc (lv' := [(0, .ref h0), (1, .ref r0), (2, .ref r1), (3, .ref r2)]) [0, 1, 2, 3] rfl ?_
  refine u_aload_n O dX0_init_0 rfl 0 rfl ?_
  refine u_obj O dX0_init_1 ol_X0_3 (by decide) (Nat.le_of_ble_eq_true rfl) ?_
  refine u_aload_n O dX0_init_4 rfl 0 rfl ?_
  refine u_bipush O dX0_init_5 kb_32 ?_
  refine u_newI (N := 32) O dX0_init_7 (by decide) (by decide) (by decide) (by decide) (fun q1 cz ez => ?_)
  have ez := eI.symm.trans ez
  subst ez
  refine u_eq (ws' := [(h0, .inr (0, [.null, .null, .null, .null, .null, .null])), (q1, .inl (cI, 32, .inl (fun _ => 0)))]) rfl ?_
  refine u_putF (q0 := 0) (ws' := [(h0, .inr (0, [.null, .null, .null, .ref q1, .null, .null])), (q1, .inl (cI, 32, .inl (fun _ => 0)))]) O hI dX0_init_9 fo_X0_9 ff_0_3 rfl rfl rfl rfl (Nat.le_of_ble_eq_true rfl) rfl ?_
  refine u_aload_n O dX0_init_12 rfl 0 rfl ?_
  refine u_bipush O dX0_init_13 kb_8 ?_
  refine u_newI (N := 8) O dX0_init_15 (by decide) (by decide) (by decide) (by decide) (fun q2 cz ez => ?_)
  have ez := eI.symm.trans ez
  subst ez
  refine u_eq (ws' := [(h0, .inr (0, [.null, .null, .null, .ref q1, .null, .null])), (q1, .inl (cI, 32, .inl (fun _ => 0))), (q2, .inl (cI, 8, .inl (fun _ => 0)))]) rfl ?_
  refine u_putF (q0 := 0) (ws' := [(h0, .inr (0, [.null, .null, .null, .ref q1, .ref q2, .null])), (q1, .inl (cI, 32, .inl (fun _ => 0))), (q2, .inl (cI, 8, .inl (fun _ => 0)))]) O hI dX0_init_17 fo_X0_15 ff_0_4 rfl rfl rfl rfl (Nat.le_of_ble_eq_true rfl) rfl ?_
  refine u_aload_n O dX0_init_20 rfl 0 rfl ?_
  refine u_bipush O dX0_init_21 kb_10 ?_
  refine u_newI (N := 10) O dX0_init_23 (by decide) (by decide) (by decide) (by decide) (fun q3 cz ez => ?_)
  have ez := eI.symm.trans ez
  subst ez
  refine u_eq (ws' := [(h0, .inr (0, [.null, .null, .null, .ref q1, .ref q2, .null])), (q1, .inl (cI, 32, .inl (fun _ => 0))), (q2, .inl (cI, 8, .inl (fun _ => 0))), (q3, .inl (cI, 10, .inl (fun _ => 0)))]) rfl ?_
  refine u_putF (q0 := 0) (ws' := [(h0, .inr (0, [.null, .null, .null, .ref q1, .ref q2, .ref q3])), (q1, .inl (cI, 32, .inl (fun _ => 0))), (q2, .inl (cI, 8, .inl (fun _ => 0))), (q3, .inl (cI, 10, .inl (fun _ => 0)))]) O hI dX0_init_25 fo_X0_18 ff_0_5 rfl rfl rfl rfl (Nat.le_of_ble_eq_true rfl) rfl ?_
  refine u_aload_n O dX0_init_28 rfl 0 rfl ?_
  refine u_aload_n O dX0_init_29 rfl 1 rfl ?_
  refine u_putF (q0 := 0) (ws' := [(h0, .inr (0, [.ref r0, .null, .null, .ref q1, .ref q2, .ref q3])), (q1, .inl (cI, 32, .inl (fun _ => 0))), (q2, .inl (cI, 8, .inl (fun _ => 0))), (q3, .inl (cI, 10, .inl (fun _ => 0)))]) O hI dX0_init_30 fo_X0_21 ff_0_0 rfl rfl rfl rfl (Nat.le_of_ble_eq_true rfl) rfl ?_
  refine u_aload_n O dX0_init_33 rfl 0 rfl ?_
  refine u_aload_n O dX0_init_34 rfl 2 rfl ?_
  refine u_putF (q0 := 0) (ws' := [(h0, .inr (0, [.ref r0, .ref r1, .null, .ref q1, .ref q2, .ref q3])), (q1, .inl (cI, 32, .inl (fun _ => 0))), (q2, .inl (cI, 8, .inl (fun _ => 0))), (q3, .inl (cI, 10, .inl (fun _ => 0)))]) O hI dX0_init_35 fo_X0_25 ff_0_1 rfl rfl rfl rfl (Nat.le_of_ble_eq_true rfl) rfl ?_
  refine u_aload_n O dX0_init_38 rfl 0 rfl ?_
  refine u_aload_n O dX0_init_39 rfl 3 rfl ?_
  refine u_putF (q0 := 0) (ws' := [(h0, .inr (0, [.ref r0, .ref r1, .ref r2, .ref q1, .ref q2, .ref q3])), (q1, .inl (cI, 32, .inl (fun _ => 0))), (q2, .inl (cI, 8, .inl (fun _ => 0))), (q3, .inl (cI, 10, .inl (fun _ => 0)))]) O hI dX0_init_40 fo_X0_29 ff_0_2 rfl rfl rfl rfl (Nat.le_of_ble_eq_true rfl) rfl ?_
  exact u_vret O r dX0_init_43 ⟨q1, q2, q3, rfl⟩
theorem dX7_init_0 : decode cX7_init 0 = .ok (.aload_n 0, 1) := by decide +kernel
theorem dX7_init_1 : decode cX7_init 1 = .ok (.invokespecial 3, 3) := by decide +kernel
theorem dX7_init_4 : decode cX7_init 4 = .ok (.aload_n 0, 1) := by decide +kernel
theorem dX7_init_5 : decode cX7_init 5 = .ok (.bipush 18, 2) := by decide +kernel
theorem dX7_init_7 : decode cX7_init 7 = .ok (.newarray .int, 2) := by decide +kernel
theorem dX7_init_9 : decode cX7_init 9 = .ok (.putfield 9, 3) := by decide +kernel
theorem dX7_init_12 : decode cX7_init 12 = .ok (.aload_n 0, 1) := by decide +kernel
theorem dX7_init_13 : decode cX7_init 13 = .ok (.iconst (-1), 1) := by decide +kernel
theorem dX7_init_14 : decode cX7_init 14 = .ok (.putfield 15, 3) := by decide +kernel
theorem dX7_init_17 : decode cX7_init 17 = .ok (.aload_n 0, 1) := by decide +kernel
theorem dX7_init_18 : decode cX7_init 18 = .ok (.iconst (-1), 1) := by decide +kernel
theorem dX7_init_19 : decode cX7_init 19 = .ok (.putfield 19, 3) := by decide +kernel
theorem dX7_init_22 : decode cX7_init 22 = .ok (.return_, 1) := by decide +kernel
set_option maxHeartbeats 4000000 in
set_option maxRecDepth 100000 in
theorem cI_X7_init {Γ : Cxt} {cI cL : ClassId} (eI : Γ.2.2.1.2.1 = cI) (eL : Γ.2.2.1.2.2.1 = cL) (h0 : Nat) (sz : Nat) : MC Γ yX7_init cX7_init 1 { frames := 1, cells := 1, slots := 18, locals := 20 } [.ref h0] [(h0, .inr (7, [.null, .int 0, .int 0, .long 0, .long 0, .int 0, .int 0]))] sz 1 18 (fun w => ∃ (q1 : Nat), w = [(h0, .inr (7, [.ref q1, .int 0, .int 0, .long 0, .long 0, .int (-1), .int (-1)])), (q1, .inl (cI, 18, .inl (fun _ => 0)))]) := by
  refine mc_of (by decide) (Nat.le_of_ble_eq_true rfl) (fun Γ e1 e2 hI0 O r => ?_)
  have hI := hI0 rfl
  have eI := e1.trans eI
  have eL := e2.trans eL
  refine u_loc (lv' := [(0, .ref h0)]) [0] rfl ?_
  refine u_aload_n O dX7_init_0 rfl 0 rfl ?_
  refine u_obj O dX7_init_1 ol_X7_3 (by decide) (Nat.le_of_ble_eq_true rfl) ?_
  refine u_aload_n O dX7_init_4 rfl 0 rfl ?_
  refine u_bipush O dX7_init_5 kb_18 ?_
  refine u_newI (N := 18) O dX7_init_7 (by decide) (by decide) (by decide) (by decide) (fun q1 cz ez => ?_)
  have ez := eI.symm.trans ez
  subst ez
  refine u_eq (ws' := [(h0, .inr (7, [.null, .int 0, .int 0, .long 0, .long 0, .int 0, .int 0])), (q1, .inl (cI, 18, .inl (fun _ => 0)))]) rfl ?_
  refine u_putF (q0 := 0) (ws' := [(h0, .inr (7, [.ref q1, .int 0, .int 0, .long 0, .long 0, .int 0, .int 0])), (q1, .inl (cI, 18, .inl (fun _ => 0)))]) O hI dX7_init_9 fo_X7_9 ff_7_0 rfl rfl rfl rfl (Nat.le_of_ble_eq_true rfl) rfl ?_
  refine u_aload_n O dX7_init_12 rfl 0 rfl ?_
  refine u_iconst O dX7_init_13 kc_m1 ?_
  refine u_put (q0 := 0) (ws' := [(h0, .inr (7, [.ref q1, .int 0, .int 0, .long 0, .long 0, .int (-1), .int 0])), (q1, .inl (cI, 18, .inl (fun _ => 0)))]) O dX7_init_14 fo_X7_15 fp_7_5 rfl rfl rfl (Nat.le_of_ble_eq_true rfl) rfl ?_
  refine u_aload_n O dX7_init_17 rfl 0 rfl ?_
  refine u_iconst O dX7_init_18 kc_m1 ?_
  refine u_put (q0 := 0) (ws' := [(h0, .inr (7, [.ref q1, .int 0, .int 0, .long 0, .long 0, .int (-1), .int (-1)])), (q1, .inl (cI, 18, .inl (fun _ => 0)))]) O dX7_init_19 fo_X7_19 fp_7_6 rfl rfl rfl (Nat.le_of_ble_eq_true rfl) rfl ?_
  exact u_vret O r dX7_init_22 ⟨q1, rfl⟩
theorem dX5_init_0 : decode cX5_init 0 = .ok (.aload_n 0, 1) := by decide +kernel
theorem dX5_init_1 : decode cX5_init 1 = .ok (.invokespecial 3, 3) := by decide +kernel
theorem dX5_init_4 : decode cX5_init 4 = .ok (.aload_n 0, 1) := by decide +kernel
theorem dX5_init_5 : decode cX5_init 5 = .ok (.new 9, 3) := by decide +kernel
theorem dX5_init_8 : decode cX5_init 8 = .ok (.dup, 1) := by decide +kernel
theorem dX5_init_9 : decode cX5_init 9 = .ok (.invokespecial 11, 3) := by decide +kernel
theorem dX5_init_12 : decode cX5_init 12 = .ok (.putfield 12, 3) := by decide +kernel
theorem dX5_init_15 : decode cX5_init 15 = .ok (.aload_n 0, 1) := by decide +kernel
theorem dX5_init_16 : decode cX5_init 16 = .ok (.bipush 18, 2) := by decide +kernel
theorem dX5_init_18 : decode cX5_init 18 = .ok (.newarray .int, 2) := by decide +kernel
theorem dX5_init_20 : decode cX5_init 20 = .ok (.putfield 18, 3) := by decide +kernel
theorem dX5_init_23 : decode cX5_init 23 = .ok (.aload_n 0, 1) := by decide +kernel
theorem dX5_init_24 : decode cX5_init 24 = .ok (.bipush 18, 2) := by decide +kernel
theorem dX5_init_26 : decode cX5_init 26 = .ok (.newarray .int, 2) := by decide +kernel
theorem dX5_init_28 : decode cX5_init 28 = .ok (.putfield 22, 3) := by decide +kernel
theorem dX5_init_31 : decode cX5_init 31 = .ok (.aload_n 0, 1) := by decide +kernel
theorem dX5_init_32 : decode cX5_init 32 = .ok (.bipush 18, 2) := by decide +kernel
theorem dX5_init_34 : decode cX5_init 34 = .ok (.newarray .int, 2) := by decide +kernel
theorem dX5_init_36 : decode cX5_init 36 = .ok (.putfield 25, 3) := by decide +kernel
theorem dX5_init_39 : decode cX5_init 39 = .ok (.aload_n 0, 1) := by decide +kernel
theorem dX5_init_40 : decode cX5_init 40 = .ok (.bipush 18, 2) := by decide +kernel
theorem dX5_init_42 : decode cX5_init 42 = .ok (.newarray .int, 2) := by decide +kernel
theorem dX5_init_44 : decode cX5_init 44 = .ok (.putfield 28, 3) := by decide +kernel
theorem dX5_init_47 : decode cX5_init 47 = .ok (.aload_n 0, 1) := by decide +kernel
theorem dX5_init_48 : decode cX5_init 48 = .ok (.bipush 18, 2) := by decide +kernel
theorem dX5_init_50 : decode cX5_init 50 = .ok (.newarray .int, 2) := by decide +kernel
theorem dX5_init_52 : decode cX5_init 52 = .ok (.putfield 31, 3) := by decide +kernel
theorem dX5_init_55 : decode cX5_init 55 = .ok (.aload_n 0, 1) := by decide +kernel
theorem dX5_init_56 : decode cX5_init 56 = .ok (.bipush 18, 2) := by decide +kernel
theorem dX5_init_58 : decode cX5_init 58 = .ok (.newarray .long, 2) := by decide +kernel
theorem dX5_init_60 : decode cX5_init 60 = .ok (.putfield 34, 3) := by decide +kernel
theorem dX5_init_63 : decode cX5_init 63 = .ok (.aload_n 0, 1) := by decide +kernel
theorem dX5_init_64 : decode cX5_init 64 = .ok (.aload_n 1, 1) := by decide +kernel
theorem dX5_init_65 : decode cX5_init 65 = .ok (.putfield 38, 3) := by decide +kernel
theorem dX5_init_68 : decode cX5_init 68 = .ok (.aload_n 0, 1) := by decide +kernel
theorem dX5_init_69 : decode cX5_init 69 = .ok (.aload_n 2, 1) := by decide +kernel
theorem dX5_init_70 : decode cX5_init 70 = .ok (.putfield 42, 3) := by decide +kernel
theorem dX5_init_73 : decode cX5_init 73 = .ok (.return_, 1) := by decide +kernel
set_option maxHeartbeats 4000000 in
set_option maxRecDepth 100000 in
theorem cI_X5_init {Γ : Cxt} {cI cL : ClassId} (eI : Γ.2.2.1.2.1 = cI) (eL : Γ.2.2.1.2.2.1 = cL) (h0 : Nat) (r0 r1 : Nat) (sz : Nat) : MC Γ yX5_init cX5_init 3 { frames := 2, cells := 8, slots := 133, locals := 40 } [.ref h0, .ref r0, .ref r1] [(h0, .inr (5, [.null, .null, .null, .null, .null, .null, .null, .null, .null, .int 0, .int 0, .int 0]))] sz 8 133 (fun w => ∃ (q1 q2 q3 q4 q5 q6 q7 q8 : Nat), w = [(h0, .inr (5, [.ref r0, .ref r1, .ref q1, .ref q3, .ref q4, .ref q5, .ref q6, .ref q7, .ref q8, .int 0, .int 0, .int 0])), (q1, .inr (7, [.ref q2, .int 0, .int 0, .long 0, .long 0, .int (-1), .int (-1)])), (q2, .inl (cI, 18, .inl (fun _ => 0))), (q3, .inl (cI, 18, .inl (fun _ => 0))), (q4, .inl (cI, 18, .inl (fun _ => 0))), (q5, .inl (cI, 18, .inl (fun _ => 0))), (q6, .inl (cI, 18, .inl (fun _ => 0))), (q7, .inl (cI, 18, .inl (fun _ => 0))), (q8, .inl (cL, 18, .inr (.inl (fun _ => 0))))]) := by
  refine mc_of (by decide) (Nat.le_of_ble_eq_true rfl) (fun Γ e1 e2 hI0 O r => ?_)
  have hI := hI0 rfl
  have eI := e1.trans eI
  have eL := e2.trans eL
  refine u_loc (lv' := [(0, .ref h0), (1, .ref r0), (2, .ref r1)]) [0, 1, 2] rfl ?_
  refine u_aload_n O dX5_init_0 rfl 0 rfl ?_
  refine u_obj O dX5_init_1 ol_X5_3 (by decide) (Nat.le_of_ble_eq_true rfl) ?_
  refine u_aload_n O dX5_init_4 rfl 0 rfl ?_
  refine u_new (ci := 7) (C := RX7) (T := TX7) (N := 7) (ty := tyX7) (fs := [.null, .int 0, .int 0, .long 0, .long 0, .int 0, .int 0]) O dX5_init_5 inW7 tyX7_ok nw_X5_9.1 nw_X5_9.2.1 nw_X5_9.2.2 rfl (by decide) (by decide) (fun q1 => ?_)
  refine u_eq (ws' := [(h0, .inr (5, [.null, .null, .null, .null, .null, .null, .null, .null, .null, .int 0, .int 0, .int 0])), (q1, .inr (7, [.null, .int 0, .int 0, .long 0, .long 0, .int 0, .int 0]))]) rfl ?_
  refine u_dup O dX5_init_8 rfl ?_
  refine u_callIN (kc := 1) (ks := 7) (w1 := [(h0, .inr (5, [.null, .null, .null, .null, .null, .null, .null, .null, .null, .int 0, .int 0, .int 0]))]) (w2 := []) (b := q1) (e0 := .inr (7, [.null, .int 0, .int 0, .long 0, .long 0, .int 0, .int 0])) (rm' := { frames := 1, cells := 1, slots := 18, locals := 20 }) (As := []) (st := [.ref q1, .ref h0]) O dX5_init_9 ci_X7_init ml_X5_11 ii_X7_init rfl ⟨rfl, rfl, (by decide), (by decide)⟩ rfl (Nat.le_of_ble_eq_true rfl) rfl (by decide) (fun sz => cI_X7_init eI eL q1 sz) (fun w0 hw0 => ?_)
  obtain ⟨q2, rfl⟩ := hw0
  refine u_eq (ws' := [(h0, .inr (5, [.null, .null, .null, .null, .null, .null, .null, .null, .null, .int 0, .int 0, .int 0])), (q1, .inr (7, [.ref q2, .int 0, .int 0, .long 0, .long 0, .int (-1), .int (-1)])), (q2, .inl (cI, 18, .inl (fun _ => 0)))]) rfl ?_
  refine u_putF (q0 := 0) (ws' := [(h0, .inr (5, [.null, .null, .ref q1, .null, .null, .null, .null, .null, .null, .int 0, .int 0, .int 0])), (q1, .inr (7, [.ref q2, .int 0, .int 0, .long 0, .long 0, .int (-1), .int (-1)])), (q2, .inl (cI, 18, .inl (fun _ => 0)))]) O hI dX5_init_12 fo_X5_12 ff_5_2 rfl rfl rfl rfl (Nat.le_of_ble_eq_true rfl) rfl ?_
  refine u_aload_n O dX5_init_15 rfl 0 rfl ?_
  refine u_bipush O dX5_init_16 kb_18 ?_
  refine u_newI (N := 18) O dX5_init_18 (by decide) (by decide) (by decide) (by decide) (fun q3 cz ez => ?_)
  have ez := eI.symm.trans ez
  subst ez
  refine u_eq (ws' := [(h0, .inr (5, [.null, .null, .ref q1, .null, .null, .null, .null, .null, .null, .int 0, .int 0, .int 0])), (q1, .inr (7, [.ref q2, .int 0, .int 0, .long 0, .long 0, .int (-1), .int (-1)])), (q2, .inl (cI, 18, .inl (fun _ => 0))), (q3, .inl (cI, 18, .inl (fun _ => 0)))]) rfl ?_
  refine u_putF (q0 := 0) (ws' := [(h0, .inr (5, [.null, .null, .ref q1, .ref q3, .null, .null, .null, .null, .null, .int 0, .int 0, .int 0])), (q1, .inr (7, [.ref q2, .int 0, .int 0, .long 0, .long 0, .int (-1), .int (-1)])), (q2, .inl (cI, 18, .inl (fun _ => 0))), (q3, .inl (cI, 18, .inl (fun _ => 0)))]) O hI dX5_init_20 fo_X5_18 ff_5_3 rfl rfl rfl rfl (Nat.le_of_ble_eq_true rfl) rfl ?_
  refine u_aload_n O dX5_init_23 rfl 0 rfl ?_
  refine u_bipush O dX5_init_24 kb_18 ?_
  refine u_newI (N := 18) O dX5_init_26 (by decide) (by decide) (by decide) (by decide) (fun q4 cz ez => ?_)
  have ez := eI.symm.trans ez
  subst ez
  refine u_eq (ws' := [(h0, .inr (5, [.null, .null, .ref q1, .ref q3, .null, .null, .null, .null, .null, .int 0, .int 0, .int 0])), (q1, .inr (7, [.ref q2, .int 0, .int 0, .long 0, .long 0, .int (-1), .int (-1)])), (q2, .inl (cI, 18, .inl (fun _ => 0))), (q3, .inl (cI, 18, .inl (fun _ => 0))), (q4, .inl (cI, 18, .inl (fun _ => 0)))]) rfl ?_
  refine u_putF (q0 := 0) (ws' := [(h0, .inr (5, [.null, .null, .ref q1, .ref q3, .ref q4, .null, .null, .null, .null, .int 0, .int 0, .int 0])), (q1, .inr (7, [.ref q2, .int 0, .int 0, .long 0, .long 0, .int (-1), .int (-1)])), (q2, .inl (cI, 18, .inl (fun _ => 0))), (q3, .inl (cI, 18, .inl (fun _ => 0))), (q4, .inl (cI, 18, .inl (fun _ => 0)))]) O hI dX5_init_28 fo_X5_22 ff_5_4 rfl rfl rfl rfl (Nat.le_of_ble_eq_true rfl) rfl ?_
  refine u_aload_n O dX5_init_31 rfl 0 rfl ?_
  refine u_bipush O dX5_init_32 kb_18 ?_
  refine u_newI (N := 18) O dX5_init_34 (by decide) (by decide) (by decide) (by decide) (fun q5 cz ez => ?_)
  have ez := eI.symm.trans ez
  subst ez
  refine u_eq (ws' := [(h0, .inr (5, [.null, .null, .ref q1, .ref q3, .ref q4, .null, .null, .null, .null, .int 0, .int 0, .int 0])), (q1, .inr (7, [.ref q2, .int 0, .int 0, .long 0, .long 0, .int (-1), .int (-1)])), (q2, .inl (cI, 18, .inl (fun _ => 0))), (q3, .inl (cI, 18, .inl (fun _ => 0))), (q4, .inl (cI, 18, .inl (fun _ => 0))), (q5, .inl (cI, 18, .inl (fun _ => 0)))]) rfl ?_
  refine u_putF (q0 := 0) (ws' := [(h0, .inr (5, [.null, .null, .ref q1, .ref q3, .ref q4, .ref q5, .null, .null, .null, .int 0, .int 0, .int 0])), (q1, .inr (7, [.ref q2, .int 0, .int 0, .long 0, .long 0, .int (-1), .int (-1)])), (q2, .inl (cI, 18, .inl (fun _ => 0))), (q3, .inl (cI, 18, .inl (fun _ => 0))), (q4, .inl (cI, 18, .inl (fun _ => 0))), (q5, .inl (cI, 18, .inl (fun _ => 0)))]) O hI dX5_init_36 fo_X5_25 ff_5_5 rfl rfl rfl rfl (Nat.le_of_ble_eq_true rfl) rfl ?_
  refine u_aload_n O dX5_init_39 rfl 0 rfl ?_
  refine u_bipush O dX5_init_40 kb_18 ?_
  refine u_newI (N := 18) O dX5_init_42 (by decide) (by decide) (by decide) (by decide) (fun q6 cz ez => ?_)
  have ez := eI.symm.trans ez
  subst ez
  refine u_eq (ws' := [(h0, .inr (5, [.null, .null, .ref q1, .ref q3, .ref q4, .ref q5, .null, .null, .null, .int 0, .int 0, .int 0])), (q1, .inr (7, [.ref q2, .int 0, .int 0, .long 0, .long 0, .int (-1), .int (-1)])), (q2, .inl (cI, 18, .inl (fun _ => 0))), (q3, .inl (cI, 18, .inl (fun _ => 0))), (q4, .inl (cI, 18, .inl (fun _ => 0))), (q5, .inl (cI, 18, .inl (fun _ => 0))), (q6, .inl (cI, 18, .inl (fun _ => 0)))]) rfl ?_
  refine u_putF (q0 := 0) (ws' := [(h0, .inr (5, [.null, .null, .ref q1, .ref q3, .ref q4, .ref q5, .ref q6, .null, .null, .int 0, .int 0, .int 0])), (q1, .inr (7, [.ref q2, .int 0, .int 0, .long 0, .long 0, .int (-1), .int (-1)])), (q2, .inl (cI, 18, .inl (fun _ => 0))), (q3, .inl (cI, 18, .inl (fun _ => 0))), (q4, .inl (cI, 18, .inl (fun _ => 0))), (q5, .inl (cI, 18, .inl (fun _ => 0))), (q6, .inl (cI, 18, .inl (fun _ => 0)))]) O hI dX5_init_44 fo_X5_28 ff_5_6 rfl rfl rfl rfl (Nat.le_of_ble_eq_true rfl) rfl ?_
  refine u_aload_n O dX5_init_47 rfl 0 rfl ?_
  refine u_bipush O dX5_init_48 kb_18 ?_
  refine u_newI (N := 18) O dX5_init_50 (by decide) (by decide) (by decide) (by decide) (fun q7 cz ez => ?_)
  have ez := eI.symm.trans ez
  subst ez
  refine u_eq (ws' := [(h0, .inr (5, [.null, .null, .ref q1, .ref q3, .ref q4, .ref q5, .ref q6, .null, .null, .int 0, .int 0, .int 0])), (q1, .inr (7, [.ref q2, .int 0, .int 0, .long 0, .long 0, .int (-1), .int (-1)])), (q2, .inl (cI, 18, .inl (fun _ => 0))), (q3, .inl (cI, 18, .inl (fun _ => 0))), (q4, .inl (cI, 18, .inl (fun _ => 0))), (q5, .inl (cI, 18, .inl (fun _ => 0))), (q6, .inl (cI, 18, .inl (fun _ => 0))), (q7, .inl (cI, 18, .inl (fun _ => 0)))]) rfl ?_
  refine u_putF (q0 := 0) (ws' := [(h0, .inr (5, [.null, .null, .ref q1, .ref q3, .ref q4, .ref q5, .ref q6, .ref q7, .null, .int 0, .int 0, .int 0])), (q1, .inr (7, [.ref q2, .int 0, .int 0, .long 0, .long 0, .int (-1), .int (-1)])), (q2, .inl (cI, 18, .inl (fun _ => 0))), (q3, .inl (cI, 18, .inl (fun _ => 0))), (q4, .inl (cI, 18, .inl (fun _ => 0))), (q5, .inl (cI, 18, .inl (fun _ => 0))), (q6, .inl (cI, 18, .inl (fun _ => 0))), (q7, .inl (cI, 18, .inl (fun _ => 0)))]) O hI dX5_init_52 fo_X5_31 ff_5_7 rfl rfl rfl rfl (Nat.le_of_ble_eq_true rfl) rfl ?_
  refine u_aload_n O dX5_init_55 rfl 0 rfl ?_
  refine u_bipush O dX5_init_56 kb_18 ?_
  refine u_newL (N := 18) O dX5_init_58 (by decide) (by decide) (by decide) (by decide) (fun q8 cz ez => ?_)
  have ez := eL.symm.trans ez
  subst ez
  refine u_eq (ws' := [(h0, .inr (5, [.null, .null, .ref q1, .ref q3, .ref q4, .ref q5, .ref q6, .ref q7, .null, .int 0, .int 0, .int 0])), (q1, .inr (7, [.ref q2, .int 0, .int 0, .long 0, .long 0, .int (-1), .int (-1)])), (q2, .inl (cI, 18, .inl (fun _ => 0))), (q3, .inl (cI, 18, .inl (fun _ => 0))), (q4, .inl (cI, 18, .inl (fun _ => 0))), (q5, .inl (cI, 18, .inl (fun _ => 0))), (q6, .inl (cI, 18, .inl (fun _ => 0))), (q7, .inl (cI, 18, .inl (fun _ => 0))), (q8, .inl (cL, 18, .inr (.inl (fun _ => 0))))]) rfl ?_
  refine u_putF (q0 := 0) (ws' := [(h0, .inr (5, [.null, .null, .ref q1, .ref q3, .ref q4, .ref q5, .ref q6, .ref q7, .ref q8, .int 0, .int 0, .int 0])), (q1, .inr (7, [.ref q2, .int 0, .int 0, .long 0, .long 0, .int (-1), .int (-1)])), (q2, .inl (cI, 18, .inl (fun _ => 0))), (q3, .inl (cI, 18, .inl (fun _ => 0))), (q4, .inl (cI, 18, .inl (fun _ => 0))), (q5, .inl (cI, 18, .inl (fun _ => 0))), (q6, .inl (cI, 18, .inl (fun _ => 0))), (q7, .inl (cI, 18, .inl (fun _ => 0))), (q8, .inl (cL, 18, .inr (.inl (fun _ => 0))))]) O hI dX5_init_60 fo_X5_34 ff_5_8 rfl rfl rfl rfl (Nat.le_of_ble_eq_true rfl) rfl ?_
  refine u_aload_n O dX5_init_63 rfl 0 rfl ?_
  refine u_aload_n O dX5_init_64 rfl 1 rfl ?_
  refine u_putF (q0 := 0) (ws' := [(h0, .inr (5, [.ref r0, .null, .ref q1, .ref q3, .ref q4, .ref q5, .ref q6, .ref q7, .ref q8, .int 0, .int 0, .int 0])), (q1, .inr (7, [.ref q2, .int 0, .int 0, .long 0, .long 0, .int (-1), .int (-1)])), (q2, .inl (cI, 18, .inl (fun _ => 0))), (q3, .inl (cI, 18, .inl (fun _ => 0))), (q4, .inl (cI, 18, .inl (fun _ => 0))), (q5, .inl (cI, 18, .inl (fun _ => 0))), (q6, .inl (cI, 18, .inl (fun _ => 0))), (q7, .inl (cI, 18, .inl (fun _ => 0))), (q8, .inl (cL, 18, .inr (.inl (fun _ => 0))))]) O hI dX5_init_65 fo_X5_38 ff_5_0 rfl rfl rfl rfl (Nat.le_of_ble_eq_true rfl) rfl ?_
  refine u_aload_n O dX5_init_68 rfl 0 rfl ?_
  refine u_aload_n O dX5_init_69 rfl 2 rfl ?_
  refine u_putF (q0 := 0) (ws' := [(h0, .inr (5, [.ref r0, .ref r1, .ref q1, .ref q3, .ref q4, .ref q5, .ref q6, .ref q7, .ref q8, .int 0, .int 0, .int 0])), (q1, .inr (7, [.ref q2, .int 0, .int 0, .long 0, .long 0, .int (-1), .int (-1)])), (q2, .inl (cI, 18, .inl (fun _ => 0))), (q3, .inl (cI, 18, .inl (fun _ => 0))), (q4, .inl (cI, 18, .inl (fun _ => 0))), (q5, .inl (cI, 18, .inl (fun _ => 0))), (q6, .inl (cI, 18, .inl (fun _ => 0))), (q7, .inl (cI, 18, .inl (fun _ => 0))), (q8, .inl (cL, 18, .inr (.inl (fun _ => 0))))]) O hI dX5_init_70 fo_X5_42 ff_5_1 rfl rfl rfl rfl (Nat.le_of_ble_eq_true rfl) rfl ?_
  exact u_vret O r dX5_init_73 ⟨q1, q2, q3, q4, q5, q6, q7, q8, rfl⟩
theorem dX9_init_0 : decode cX9_init 0 = .ok (.aload_n 0, 1) := by decide +kernel
theorem dX9_init_1 : decode cX9_init 1 = .ok (.invokespecial 3, 3) := by decide +kernel
theorem dX9_init_4 : decode cX9_init 4 = .ok (.aload_n 0, 1) := by decide +kernel
theorem dX9_init_5 : decode cX9_init 5 = .ok (.new 9, 3) := by decide +kernel
theorem dX9_init_8 : decode cX9_init 8 = .ok (.dup, 1) := by decide +kernel
theorem dX9_init_9 : decode cX9_init 9 = .ok (.invokespecial 11, 3) := by decide +kernel
theorem dX9_init_12 : decode cX9_init 12 = .ok (.putfield 12, 3) := by decide +kernel
theorem dX9_init_15 : decode cX9_init 15 = .ok (.aload_n 0, 1) := by decide +kernel
theorem dX9_init_16 : decode cX9_init 16 = .ok (.new 16, 3) := by decide +kernel
theorem dX9_init_19 : decode cX9_init 19 = .ok (.dup, 1) := by decide +kernel
theorem dX9_init_20 : decode cX9_init 20 = .ok (.invokespecial 18, 3) := by decide +kernel
theorem dX9_init_23 : decode cX9_init 23 = .ok (.putfield 19, 3) := by decide +kernel
theorem dX9_init_26 : decode cX9_init 26 = .ok (.aload_n 0, 1) := by decide +kernel
theorem dX9_init_27 : decode cX9_init 27 = .ok (.new 23, 3) := by decide +kernel
theorem dX9_init_30 : decode cX9_init 30 = .ok (.dup, 1) := by decide +kernel
theorem dX9_init_31 : decode cX9_init 31 = .ok (.invokespecial 25, 3) := by decide +kernel
theorem dX9_init_34 : decode cX9_init 34 = .ok (.putfield 26, 3) := by decide +kernel
theorem dX9_init_37 : decode cX9_init 37 = .ok (.aload_n 0, 1) := by decide +kernel
theorem dX9_init_38 : decode cX9_init 38 = .ok (.new 30, 3) := by decide +kernel
theorem dX9_init_41 : decode cX9_init 41 = .ok (.dup, 1) := by decide +kernel
theorem dX9_init_42 : decode cX9_init 42 = .ok (.aload_n 0, 1) := by decide +kernel
theorem dX9_init_43 : decode cX9_init 43 = .ok (.getfield 12, 3) := by decide +kernel
theorem dX9_init_46 : decode cX9_init 46 = .ok (.aload_n 0, 1) := by decide +kernel
theorem dX9_init_47 : decode cX9_init 47 = .ok (.getfield 19, 3) := by decide +kernel
theorem dX9_init_50 : decode cX9_init 50 = .ok (.invokespecial 32, 3) := by decide +kernel
theorem dX9_init_53 : decode cX9_init 53 = .ok (.putfield 35, 3) := by decide +kernel
theorem dX9_init_56 : decode cX9_init 56 = .ok (.aload_n 0, 1) := by decide +kernel
theorem dX9_init_57 : decode cX9_init 57 = .ok (.new 39, 3) := by decide +kernel
theorem dX9_init_60 : decode cX9_init 60 = .ok (.dup, 1) := by decide +kernel
theorem dX9_init_61 : decode cX9_init 61 = .ok (.invokespecial 41, 3) := by decide +kernel
theorem dX9_init_64 : decode cX9_init 64 = .ok (.putfield 42, 3) := by decide +kernel
theorem dX9_init_67 : decode cX9_init 67 = .ok (.aload_n 0, 1) := by decide +kernel
theorem dX9_init_68 : decode cX9_init 68 = .ok (.new 46, 3) := by decide +kernel
theorem dX9_init_71 : decode cX9_init 71 = .ok (.dup, 1) := by decide +kernel
theorem dX9_init_72 : decode cX9_init 72 = .ok (.invokespecial 48, 3) := by decide +kernel
theorem dX9_init_75 : decode cX9_init 75 = .ok (.putfield 49, 3) := by decide +kernel
theorem dX9_init_78 : decode cX9_init 78 = .ok (.aload_n 0, 1) := by decide +kernel
theorem dX9_init_79 : decode cX9_init 79 = .ok (.new 53, 3) := by decide +kernel
theorem dX9_init_82 : decode cX9_init 82 = .ok (.dup, 1) := by decide +kernel
theorem dX9_init_83 : decode cX9_init 83 = .ok (.aload_n 0, 1) := by decide +kernel
theorem dX9_init_84 : decode cX9_init 84 = .ok (.getfield 19, 3) := by decide +kernel
theorem dX9_init_87 : decode cX9_init 87 = .ok (.aload_n 0, 1) := by decide +kernel
theorem dX9_init_88 : decode cX9_init 88 = .ok (.getfield 26, 3) := by decide +kernel
theorem dX9_init_91 : decode cX9_init 91 = .ok (.aload_n 0, 1) := by decide +kernel
theorem dX9_init_92 : decode cX9_init 92 = .ok (.getfield 49, 3) := by decide +kernel
theorem dX9_init_95 : decode cX9_init 95 = .ok (.invokespecial 55, 3) := by decide +kernel
theorem dX9_init_98 : decode cX9_init 98 = .ok (.putfield 58, 3) := by decide +kernel
theorem dX9_init_101 : decode cX9_init 101 = .ok (.aload_n 0, 1) := by decide +kernel
theorem dX9_init_102 : decode cX9_init 102 = .ok (.new 62, 3) := by decide +kernel
theorem dX9_init_105 : decode cX9_init 105 = .ok (.dup, 1) := by decide +kernel
theorem dX9_init_106 : decode cX9_init 106 = .ok (.aload_n 0, 1) := by decide +kernel
theorem dX9_init_107 : decode cX9_init 107 = .ok (.getfield 19, 3) := by decide +kernel
theorem dX9_init_110 : decode cX9_init 110 = .ok (.aload_n 0, 1) := by decide +kernel
theorem dX9_init_111 : decode cX9_init 111 = .ok (.getfield 49, 3) := by decide +kernel
theorem dX9_init_114 : decode cX9_init 114 = .ok (.invokespecial 64, 3) := by decide +kernel
theorem dX9_init_117 : decode cX9_init 117 = .ok (.putfield 67, 3) := by decide +kernel
theorem dX9_init_120 : decode cX9_init 120 = .ok (.aload_n 0, 1) := by decide +kernel
theorem dX9_init_121 : decode cX9_init 121 = .ok (.iconst 0, 1) := by decide +kernel
theorem dX9_init_122 : decode cX9_init 122 = .ok (.putfield 71, 3) := by decide +kernel
theorem dX9_init_125 : decode cX9_init 125 = .ok (.aload_n 0, 1) := by decide +kernel
theorem dX9_init_126 : decode cX9_init 126 = .ok (.iconst 0, 1) := by decide +kernel
theorem dX9_init_127 : decode cX9_init 127 = .ok (.putfield 75, 3) := by decide +kernel
theorem dX9_init_130 : decode cX9_init 130 = .ok (.aload_n 0, 1) := by decide +kernel
theorem dX9_init_131 : decode cX9_init 131 = .ok (.iconst (-1), 1) := by decide +kernel
theorem dX9_init_132 : decode cX9_init 132 = .ok (.putfield 78, 3) := by decide +kernel
theorem dX9_init_135 : decode cX9_init 135 = .ok (.return_, 1) := by decide +kernel
set_option maxHeartbeats 4000000 in
set_option maxRecDepth 100000 in
theorem cI_X9_init {Γ : Cxt} {cI cL : ClassId} (eI : Γ.2.2.1.2.1 = cI) (eL : Γ.2.2.1.2.2.1 = cL) (h0 : Nat) (sz : Nat) : MC Γ yX9_init cX9_init 1 { frames := 3, cells := 47, slots := 957, locals := 62 } [.ref h0] [(h0, .inr (9, [.null, .null, .null, .null, .null, .null, .null, .null, .int 0, .int 0, .int 0]))] sz 47 957 (fun w => ∃ (q1 q2 q3 q4 q5 q6 q7 q8 q9 q10 q11 q12 q13 q14 q15 q16 q17 q18 q19 q20 q21 q22 q23 q24 q25 q26 q27 q28 q29 q30 q31 q32 q33 q34 q35 q36 q37 q38 q39 q40 q41 q42 q43 q44 q45 q46 q47 : Nat), w = [(h0, .inr (9, [.ref q1, .ref q3, .ref q13, .ref q24, .ref q28, .ref q31, .ref q35, .ref q39, .int 0, .int 0, .int (-1)])), (q1, .inr (8, [.ref q2, .int 0])), (q2, .inl (cI, 120, .inl (fun _ => 0))), (q3, .inr (1, [.ref q4, .ref q5, .ref q6, .ref q7, .ref q8, .ref q9, .ref q10, .ref q11, .ref q12, .int 0])), (q4, .inl (cI, 52, .inl (fillN 52 5 (fun _ => 0)))), (q5, .inl (cI, 120, .inl (fun _ => 0))), (q6, .inl (cI, 10, .inl (fun _ => 0))), (q7, .inl (cI, 20, .inl (fun _ => 0))), (q8, .inl (cI, 10, .inl (fun _ => 0))), (q9, .inl (cI, 10, .inl (fun _ => 0))), (q10, .inl (cI, 10, .inl (fun _ => 0))), (q11, .inl (cI, 10, .inl (fun _ => 0))), (q12, .inl (cI, 10, .inl (fun _ => 0))), (q13, .inr (3, [.ref q14, .ref q15, .ref q16, .ref q17, .ref q18, .ref q19, .ref q20, .ref q21, .ref q22, .ref q23, .int 0, .int 0, .int 0, .int 0, .int 0])), (q14, .inl (cI, 8, .inl (fun _ => 0))), (q15, .inl (cI, 8, .inl (fun _ => 0))), (q16, .inl (cI, 32, .inl (fun _ => 0))), (q17, .inl (cI, 32, .inl (fun _ => 0))), (q18, .inl (cI, 32, .inl (fun _ => 0))), (q19, .inl (cI, 32, .inl (fun _ => 0))), (q20, .inl (cI, 32, .inl (fun _ => 0))), (q21, .inl (cI, 32, .inl (fun _ => 0))), (q22, .inl (cI, 10, .inl (fun _ => 0))), (q23, .inl (cI, 10, .inl (fun _ => 0))), (q24, .inr (2, [.ref q1, .ref q3, .ref q25, .ref q26, .ref q27, .int 0, .int 0, .int 0, .int 0, .int 0, .int 0, .int 0, .int 0])), (q25, .inl (cI, 4, .inl (fun _ => 0))), (q26, .inl (cI, 4, .inl (fun _ => 0))), (q27, .inl (cI, 4, .inl (fun _ => 0))), (q28, .inr (4, [.ref q29, .ref q30])), (q29, .inl (cI, 4, .inl (fun _ => 0))), (q30, .inl (cI, 40, .inl (fillN 40 (-1) (fun _ => 0)))), (q31, .inr (6, [.ref q32, .ref q33, .ref q34, .int 0])), (q32, .inl (cI, 18, .inl (fun _ => 0))), (q33, .inl (cI, 18, .inl (fun _ => 0))), (q34, .inl (cI, 18, .inl (fun _ => 0))), (q35, .inr (0, [.ref q3, .ref q13, .ref q31, .ref q36, .ref q37, .ref q38])), (q36, .inl (cI, 32, .inl (fun _ => 0))), (q37, .inl (cI, 8, .inl (fun _ => 0))), (q38, .inl (cI, 10, .inl (fun _ => 0))), (q39, .inr (5, [.ref q3, .ref q31, .ref q40, .ref q42, .ref q43, .ref q44, .ref q45, .ref q46, .ref q47, .int 0, .int 0, .int 0])), (q40, .inr (7, [.ref q41, .int 0, .int 0, .long 0, .long 0, .int (-1), .int (-1)])), (q41, .inl (cI, 18, .inl (fun _ => 0))), (q42, .inl (cI, 18, .inl (fun _ => 0))), (q43, .inl (cI, 18, .inl (fun _ => 0))), (q44, .inl (cI, 18, .inl (fun _ => 0))), (q45, .inl (cI, 18, .inl (fun _ => 0))), (q46, .inl (cI, 18, .inl (fun _ => 0))), (q47, .inl (cL, 18, .inr (.inl (fun _ => 0))))]) := by
  refine mc_of (by decide) (Nat.le_of_ble_eq_true rfl) (fun Γ e1 e2 hI0 O r => ?_)
  have hI := hI0 rfl
  have eI := e1.trans eI
  have eL := e2.trans eL
  refine u_loc (lv' := [(0, .ref h0)]) [0] rfl ?_
  refine u_aload_n O dX9_init_0 rfl 0 rfl ?_
  refine u_obj O dX9_init_1 ol_X9_3 (by decide) (Nat.le_of_ble_eq_true rfl) ?_
  refine u_aload_n O dX9_init_4 rfl 0 rfl ?_
  refine u_new (ci := 8) (C := RX8) (T := TX8) (N := 2) (ty := tyX8) (fs := [.null, .int 0]) O dX9_init_5 inW8 tyX8_ok nw_X9_9.1 nw_X9_9.2.1 nw_X9_9.2.2 rfl (by decide) (by decide) (fun q1 => ?_)
  refine u_eq (ws' := [(h0, .inr (9, [.null, .null, .null, .null, .null, .null, .null, .null, .int 0, .int 0, .int 0])), (q1, .inr (8, [.null, .int 0]))]) rfl ?_
  refine u_dup O dX9_init_8 rfl ?_
  refine u_callIN (kc := 1) (ks := 2) (w1 := [(h0, .inr (9, [.null, .null, .null, .null, .null, .null, .null, .null, .int 0, .int 0, .int 0]))]) (w2 := []) (b := q1) (e0 := .inr (8, [.null, .int 0])) (rm' := { frames := 1, cells := 1, slots := 120, locals := 20 }) (As := []) (st := [.ref q1, .ref h0]) O dX9_init_9 ci_X8_init ml_X9_11 ii_X8_init rfl ⟨rfl, rfl, (by decide), (by decide)⟩ rfl (Nat.le_of_ble_eq_true rfl) rfl (by decide) (fun sz => cI_X8_init eI eL q1 sz) (fun w0 hw0 => ?_)
  obtain ⟨q2, rfl⟩ := hw0
  refine u_eq (ws' := [(h0, .inr (9, [.null, .null, .null, .null, .null, .null, .null, .null, .int 0, .int 0, .int 0])), (q1, .inr (8, [.ref q2, .int 0])), (q2, .inl (cI, 120, .inl (fun _ => 0)))]) rfl ?_
  refine u_putF (q0 := 0) (ws' := [(h0, .inr (9, [.ref q1, .null, .null, .null, .null, .null, .null, .null, .int 0, .int 0, .int 0])), (q1, .inr (8, [.ref q2, .int 0])), (q2, .inl (cI, 120, .inl (fun _ => 0)))]) O hI dX9_init_12 fo_X9_12 ff_9_0 rfl rfl rfl rfl (Nat.le_of_ble_eq_true rfl) rfl ?_
  refine u_aload_n O dX9_init_15 rfl 0 rfl ?_
  refine u_new (ci := 1) (C := RX1) (T := TX1) (N := 10) (ty := tyX1) (fs := [.null, .null, .null, .null, .null, .null, .null, .null, .null, .int 0]) O dX9_init_16 inW1 tyX1_ok nw_X9_16.1 nw_X9_16.2.1 nw_X9_16.2.2 rfl (by decide) (by decide) (fun q3 => ?_)
  refine u_eq (ws' := [(h0, .inr (9, [.ref q1, .null, .null, .null, .null, .null, .null, .null, .int 0, .int 0, .int 0])), (q1, .inr (8, [.ref q2, .int 0])), (q2, .inl (cI, 120, .inl (fun _ => 0))), (q3, .inr (1, [.null, .null, .null, .null, .null, .null, .null, .null, .null, .int 0]))]) rfl ?_
  refine u_dup O dX9_init_19 rfl ?_
  refine u_callI (kc := 3) (ks := 132) (w1 := [(h0, .inr (9, [.ref q1, .null, .null, .null, .null, .null, .null, .null, .int 0, .int 0, .int 0])), (q1, .inr (8, [.ref q2, .int 0])), (q2, .inl (cI, 120, .inl (fun _ => 0)))]) (w2 := []) (b := q3) (e0 := .inr (1, [.null, .null, .null, .null, .null, .null, .null, .null, .null, .int 0])) (rm' := { frames := 1, cells := 9, slots := 252, locals := 23 }) (As := []) (st := [.ref q3, .ref h0]) O dX9_init_20 ci_X1_init ml_X9_18 ii_X1_init rfl ⟨rfl, rfl, (by decide), (by decide)⟩ rfl (Nat.le_of_ble_eq_true rfl) rfl (by decide) (fun sz => cI_X1_init eI eL q3 sz) (fun w0 hw0 => ?_)
  obtain ⟨q4, q5, q6, q7, q8, q9, q10, q11, q12, rfl⟩ := hw0
  refine u_eq (ws' := [(h0, .inr (9, [.ref q1, .null, .null, .null, .null, .null, .null, .null, .int 0, .int 0, .int 0])), (q1, .inr (8, [.ref q2, .int 0])), (q2, .inl (cI, 120, .inl (fun _ => 0))), (q3, .inr (1, [.ref q4, .ref q5, .ref q6, .ref q7, .ref q8, .ref q9, .ref q10, .ref q11, .ref q12, .int 0])), (q4, .inl (cI, 52, .inl (fillN 52 5 (fun _ => 0)))), (q5, .inl (cI, 120, .inl (fun _ => 0))), (q6, .inl (cI, 10, .inl (fun _ => 0))), (q7, .inl (cI, 20, .inl (fun _ => 0))), (q8, .inl (cI, 10, .inl (fun _ => 0))), (q9, .inl (cI, 10, .inl (fun _ => 0))), (q10, .inl (cI, 10, .inl (fun _ => 0))), (q11, .inl (cI, 10, .inl (fun _ => 0))), (q12, .inl (cI, 10, .inl (fun _ => 0)))]) rfl ?_
  refine u_putF (q0 := 0) (ws' := [(h0, .inr (9, [.ref q1, .ref q3, .null, .null, .null, .null, .null, .null, .int 0, .int 0, .int 0])), (q1, .inr (8, [.ref q2, .int 0])), (q2, .inl (cI, 120, .inl (fun _ => 0))), (q3, .inr (1, [.ref q4, .ref q5, .ref q6, .ref q7, .ref q8, .ref q9, .ref q10, .ref q11, .ref q12, .int 0])), (q4, .inl (cI, 52, .inl (fillN 52 5 (fun _ => 0)))), (q5, .inl (cI, 120, .inl (fun _ => 0))), (q6, .inl (cI, 10, .inl (fun _ => 0))), (q7, .inl (cI, 20, .inl (fun _ => 0))), (q8, .inl (cI, 10, .inl (fun _ => 0))), (q9, .inl (cI, 10, .inl (fun _ => 0))), (q10, .inl (cI, 10, .inl (fun _ => 0))), (q11, .inl (cI, 10, .inl (fun _ => 0))), (q12, .inl (cI, 10, .inl (fun _ => 0)))]) O hI dX9_init_23 fo_X9_19 ff_9_1 rfl rfl rfl rfl (Nat.le_of_ble_eq_true rfl) rfl ?_
  refine u_aload_n O dX9_init_26 rfl 0 rfl ?_
  refine u_new (ci := 3) (C := RX3) (T := TX3) (N := 15) (ty := tyX3) (fs := [.null, .null, .null, .null, .null, .null, .null, .null, .null, .null, .int 0, .int 0, .int 0, .int 0, .int 0]) O dX9_init_27 inW3 tyX3_ok nw_X9_23.1 nw_X9_23.2.1 nw_X9_23.2.2 rfl (by decide) (by decide) (fun q13 => ?_)
  refine u_eq (ws' := [(h0, .inr (9, [.ref q1, .ref q3, .null, .null, .null, .null, .null, .null, .int 0, .int 0, .int 0])), (q1, .inr (8, [.ref q2, .int 0])), (q2, .inl (cI, 120, .inl (fun _ => 0))), (q3, .inr (1, [.ref q4, .ref q5, .ref q6, .ref q7, .ref q8, .ref q9, .ref q10, .ref q11, .ref q12, .int 0])), (q4, .inl (cI, 52, .inl (fillN 52 5 (fun _ => 0)))), (q5, .inl (cI, 120, .inl (fun _ => 0))), (q6, .inl (cI, 10, .inl (fun _ => 0))), (q7, .inl (cI, 20, .inl (fun _ => 0))), (q8, .inl (cI, 10, .inl (fun _ => 0))), (q9, .inl (cI, 10, .inl (fun _ => 0))), (q10, .inl (cI, 10, .inl (fun _ => 0))), (q11, .inl (cI, 10, .inl (fun _ => 0))), (q12, .inl (cI, 10, .inl (fun _ => 0))), (q13, .inr (3, [.null, .null, .null, .null, .null, .null, .null, .null, .null, .null, .int 0, .int 0, .int 0, .int 0, .int 0]))]) rfl ?_
  refine u_dup O dX9_init_30 rfl ?_
  refine u_callIN (kc := 13) (ks := 399) (w1 := [(h0, .inr (9, [.ref q1, .ref q3, .null, .null, .null, .null, .null, .null, .int 0, .int 0, .int 0])), (q1, .inr (8, [.ref q2, .int 0])), (q2, .inl (cI, 120, .inl (fun _ => 0))), (q3, .inr (1, [.ref q4, .ref q5, .ref q6, .ref q7, .ref q8, .ref q9, .ref q10, .ref q11, .ref q12, .int 0])), (q4, .inl (cI, 52, .inl (fillN 52 5 (fun _ => 0)))), (q5, .inl (cI, 120, .inl (fun _ => 0))), (q6, .inl (cI, 10, .inl (fun _ => 0))), (q7, .inl (cI, 20, .inl (fun _ => 0))), (q8, .inl (cI, 10, .inl (fun _ => 0))), (q9, .inl (cI, 10, .inl (fun _ => 0))), (q10, .inl (cI, 10, .inl (fun _ => 0))), (q11, .inl (cI, 10, .inl (fun _ => 0))), (q12, .inl (cI, 10, .inl (fun _ => 0)))]) (w2 := []) (b := q13) (e0 := .inr (3, [.null, .null, .null, .null, .null, .null, .null, .null, .null, .null, .int 0, .int 0, .int 0, .int 0, .int 0])) (rm' := { frames := 1, cells := 10, slots := 228, locals := 20 }) (As := []) (st := [.ref q13, .ref h0]) O dX9_init_31 ci_X3_init ml_X9_25 ii_X3_init rfl ⟨rfl, rfl, (by decide), (by decide)⟩ rfl (Nat.le_of_ble_eq_true rfl) rfl (by decide) (fun sz => cI_X3_init eI eL q13 sz) (fun w0 hw0 => ?_)
  obtain ⟨q14, q15, q16, q17, q18, q19, q20, q21, q22, q23, rfl⟩ := hw0
  refine u_eq (ws' := [(h0, .inr (9, [.ref q1, .ref q3, .null, .null, .null, .null, .null, .null, .int 0, .int 0, .int 0])), (q1, .inr (8, [.ref q2, .int 0])), (q2, .inl (cI, 120, .inl (fun _ => 0))), (q3, .inr (1, [.ref q4, .ref q5, .ref q6, .ref q7, .ref q8, .ref q9, .ref q10, .ref q11, .ref q12, .int 0])), (q4, .inl (cI, 52, .inl (fillN 52 5 (fun _ => 0)))), (q5, .inl (cI, 120, .inl (fun _ => 0))), (q6, .inl (cI, 10, .inl (fun _ => 0))), (q7, .inl (cI, 20, .inl (fun _ => 0))), (q8, .inl (cI, 10, .inl (fun _ => 0))), (q9, .inl (cI, 10, .inl (fun _ => 0))), (q10, .inl (cI, 10, .inl (fun _ => 0))), (q11, .inl (cI, 10, .inl (fun _ => 0))), (q12, .inl (cI, 10, .inl (fun _ => 0))), (q13, .inr (3, [.ref q14, .ref q15, .ref q16, .ref q17, .ref q18, .ref q19, .ref q20, .ref q21, .ref q22, .ref q23, .int 0, .int 0, .int 0, .int 0, .int 0])), (q14, .inl (cI, 8, .inl (fun _ => 0))), (q15, .inl (cI, 8, .inl (fun _ => 0))), (q16, .inl (cI, 32, .inl (fun _ => 0))), (q17, .inl (cI, 32, .inl (fun _ => 0))), (q18, .inl (cI, 32, .inl (fun _ => 0))), (q19, .inl (cI, 32, .inl (fun _ => 0))), (q20, .inl (cI, 32, .inl (fun _ => 0))), (q21, .inl (cI, 32, .inl (fun _ => 0))), (q22, .inl (cI, 10, .inl (fun _ => 0))), (q23, .inl (cI, 10, .inl (fun _ => 0)))]) rfl ?_
  refine u_putF (q0 := 0) (ws' := [(h0, .inr (9, [.ref q1, .ref q3, .ref q13, .null, .null, .null, .null, .null, .int 0, .int 0, .int 0])), (q1, .inr (8, [.ref q2, .int 0])), (q2, .inl (cI, 120, .inl (fun _ => 0))), (q3, .inr (1, [.ref q4, .ref q5, .ref q6, .ref q7, .ref q8, .ref q9, .ref q10, .ref q11, .ref q12, .int 0])), (q4, .inl (cI, 52, .inl (fillN 52 5 (fun _ => 0)))), (q5, .inl (cI, 120, .inl (fun _ => 0))), (q6, .inl (cI, 10, .inl (fun _ => 0))), (q7, .inl (cI, 20, .inl (fun _ => 0))), (q8, .inl (cI, 10, .inl (fun _ => 0))), (q9, .inl (cI, 10, .inl (fun _ => 0))), (q10, .inl (cI, 10, .inl (fun _ => 0))), (q11, .inl (cI, 10, .inl (fun _ => 0))), (q12, .inl (cI, 10, .inl (fun _ => 0))), (q13, .inr (3, [.ref q14, .ref q15, .ref q16, .ref q17, .ref q18, .ref q19, .ref q20, .ref q21, .ref q22, .ref q23, .int 0, .int 0, .int 0, .int 0, .int 0])), (q14, .inl (cI, 8, .inl (fun _ => 0))), (q15, .inl (cI, 8, .inl (fun _ => 0))), (q16, .inl (cI, 32, .inl (fun _ => 0))), (q17, .inl (cI, 32, .inl (fun _ => 0))), (q18, .inl (cI, 32, .inl (fun _ => 0))), (q19, .inl (cI, 32, .inl (fun _ => 0))), (q20, .inl (cI, 32, .inl (fun _ => 0))), (q21, .inl (cI, 32, .inl (fun _ => 0))), (q22, .inl (cI, 10, .inl (fun _ => 0))), (q23, .inl (cI, 10, .inl (fun _ => 0)))]) O hI dX9_init_34 fo_X9_26 ff_9_2 rfl rfl rfl rfl (Nat.le_of_ble_eq_true rfl) rfl ?_
  refine u_aload_n O dX9_init_37 rfl 0 rfl ?_
  refine u_new (ci := 2) (C := RX2) (T := TX2) (N := 13) (ty := tyX2) (fs := [.null, .null, .null, .null, .null, .int 0, .int 0, .int 0, .int 0, .int 0, .int 0, .int 0, .int 0]) O dX9_init_38 inW2 tyX2_ok nw_X9_30.1 nw_X9_30.2.1 nw_X9_30.2.2 rfl (by decide) (by decide) (fun q24 => ?_)
  refine u_eq (ws' := [(h0, .inr (9, [.ref q1, .ref q3, .ref q13, .null, .null, .null, .null, .null, .int 0, .int 0, .int 0])), (q1, .inr (8, [.ref q2, .int 0])), (q2, .inl (cI, 120, .inl (fun _ => 0))), (q3, .inr (1, [.ref q4, .ref q5, .ref q6, .ref q7, .ref q8, .ref q9, .ref q10, .ref q11, .ref q12, .int 0])), (q4, .inl (cI, 52, .inl (fillN 52 5 (fun _ => 0)))), (q5, .inl (cI, 120, .inl (fun _ => 0))), (q6, .inl (cI, 10, .inl (fun _ => 0))), (q7, .inl (cI, 20, .inl (fun _ => 0))), (q8, .inl (cI, 10, .inl (fun _ => 0))), (q9, .inl (cI, 10, .inl (fun _ => 0))), (q10, .inl (cI, 10, .inl (fun _ => 0))), (q11, .inl (cI, 10, .inl (fun _ => 0))), (q12, .inl (cI, 10, .inl (fun _ => 0))), (q13, .inr (3, [.ref q14, .ref q15, .ref q16, .ref q17, .ref q18, .ref q19, .ref q20, .ref q21, .ref q22, .ref q23, .int 0, .int 0, .int 0, .int 0, .int 0])), (q14, .inl (cI, 8, .inl (fun _ => 0))), (q15, .inl (cI, 8, .inl (fun _ => 0))), (q16, .inl (cI, 32, .inl (fun _ => 0))), (q17, .inl (cI, 32, .inl (fun _ => 0))), (q18, .inl (cI, 32, .inl (fun _ => 0))), (q19, .inl (cI, 32, .inl (fun _ => 0))), (q20, .inl (cI, 32, .inl (fun _ => 0))), (q21, .inl (cI, 32, .inl (fun _ => 0))), (q22, .inl (cI, 10, .inl (fun _ => 0))), (q23, .inl (cI, 10, .inl (fun _ => 0))), (q24, .inr (2, [.null, .null, .null, .null, .null, .int 0, .int 0, .int 0, .int 0, .int 0, .int 0, .int 0, .int 0]))]) rfl ?_
  refine u_dup O dX9_init_41 rfl ?_
  refine u_aload_n O dX9_init_42 rfl 0 rfl ?_
  refine u_get (q0 := 0) O dX9_init_43 fo_X9_12 rfl rfl ?_
  refine u_aload_n O dX9_init_46 rfl 0 rfl ?_
  refine u_get (q0 := 0) O dX9_init_47 fo_X9_19 rfl rfl ?_
  refine u_callI (kc := 24) (ks := 640) (w1 := [(h0, .inr (9, [.ref q1, .ref q3, .ref q13, .null, .null, .null, .null, .null, .int 0, .int 0, .int 0])), (q1, .inr (8, [.ref q2, .int 0])), (q2, .inl (cI, 120, .inl (fun _ => 0))), (q3, .inr (1, [.ref q4, .ref q5, .ref q6, .ref q7, .ref q8, .ref q9, .ref q10, .ref q11, .ref q12, .int 0])), (q4, .inl (cI, 52, .inl (fillN 52 5 (fun _ => 0)))), (q5, .inl (cI, 120, .inl (fun _ => 0))), (q6, .inl (cI, 10, .inl (fun _ => 0))), (q7, .inl (cI, 20, .inl (fun _ => 0))), (q8, .inl (cI, 10, .inl (fun _ => 0))), (q9, .inl (cI, 10, .inl (fun _ => 0))), (q10, .inl (cI, 10, .inl (fun _ => 0))), (q11, .inl (cI, 10, .inl (fun _ => 0))), (q12, .inl (cI, 10, .inl (fun _ => 0))), (q13, .inr (3, [.ref q14, .ref q15, .ref q16, .ref q17, .ref q18, .ref q19, .ref q20, .ref q21, .ref q22, .ref q23, .int 0, .int 0, .int 0, .int 0, .int 0])), (q14, .inl (cI, 8, .inl (fun _ => 0))), (q15, .inl (cI, 8, .inl (fun _ => 0))), (q16, .inl (cI, 32, .inl (fun _ => 0))), (q17, .inl (cI, 32, .inl (fun _ => 0))), (q18, .inl (cI, 32, .inl (fun _ => 0))), (q19, .inl (cI, 32, .inl (fun _ => 0))), (q20, .inl (cI, 32, .inl (fun _ => 0))), (q21, .inl (cI, 32, .inl (fun _ => 0))), (q22, .inl (cI, 10, .inl (fun _ => 0))), (q23, .inl (cI, 10, .inl (fun _ => 0)))]) (w2 := []) (b := q24) (e0 := .inr (2, [.null, .null, .null, .null, .null, .int 0, .int 0, .int 0, .int 0, .int 0, .int 0, .int 0, .int 0])) (rm' := { frames := 1, cells := 3, slots := 12, locals := 20 }) (As := [.ref q1, .ref q3]) (st := [.ref q24, .ref h0]) O dX9_init_50 ci_X2_init ml_X9_32 ii_X2_init rfl ⟨rfl, rfl, (by decide), (by decide)⟩ rfl (Nat.le_of_ble_eq_true rfl) rfl (by decide) (fun sz => cI_X2_init eI eL q24 q1 q3 sz) (fun w0 hw0 => ?_)
  obtain ⟨q25, q26, q27, rfl⟩ := hw0
  refine u_eq (ws' := [(h0, .inr (9, [.ref q1, .ref q3, .ref q13, .null, .null, .null, .null, .null, .int 0, .int 0, .int 0])), (q1, .inr (8, [.ref q2, .int 0])), (q2, .inl (cI, 120, .inl (fun _ => 0))), (q3, .inr (1, [.ref q4, .ref q5, .ref q6, .ref q7, .ref q8, .ref q9, .ref q10, .ref q11, .ref q12, .int 0])), (q4, .inl (cI, 52, .inl (fillN 52 5 (fun _ => 0)))), (q5, .inl (cI, 120, .inl (fun _ => 0))), (q6, .inl (cI, 10, .inl (fun _ => 0))), (q7, .inl (cI, 20, .inl (fun _ => 0))), (q8, .inl (cI, 10, .inl (fun _ => 0))), (q9, .inl (cI, 10, .inl (fun _ => 0))), (q10, .inl (cI, 10, .inl (fun _ => 0))), (q11, .inl (cI, 10, .inl (fun _ => 0))), (q12, .inl (cI, 10, .inl (fun _ => 0))), (q13, .inr (3, [.ref q14, .ref q15, .ref q16, .ref q17, .ref q18, .ref q19, .ref q20, .ref q21, .ref q22, .ref q23, .int 0, .int 0, .int 0, .int 0, .int 0])), (q14, .inl (cI, 8, .inl (fun _ => 0))), (q15, .inl (cI, 8, .inl (fun _ => 0))), (q16, .inl (cI, 32, .inl (fun _ => 0))), (q17, .inl (cI, 32, .inl (fun _ => 0))), (q18, .inl (cI, 32, .inl (fun _ => 0))), (q19, .inl (cI, 32, .inl (fun _ => 0))), (q20, .inl (cI, 32, .inl (fun _ => 0))), (q21, .inl (cI, 32, .inl (fun _ => 0))), (q22, .inl (cI, 10, .inl (fun _ => 0))), (q23, .inl (cI, 10, .inl (fun _ => 0))), (q24, .inr (2, [.ref q1, .ref q3, .ref q25, .ref q26, .ref q27, .int 0, .int 0, .int 0, .int 0, .int 0, .int 0, .int 0, .int 0])), (q25, .inl (cI, 4, .inl (fun _ => 0))), (q26, .inl (cI, 4, .inl (fun _ => 0))), (q27, .inl (cI, 4, .inl (fun _ => 0)))]) rfl ?_
  refine u_putF (q0 := 0) (ws' := [(h0, .inr (9, [.ref q1, .ref q3, .ref q13, .ref q24, .null, .null, .null, .null, .int 0, .int 0, .int 0])), (q1, .inr (8, [.ref q2, .int 0])), (q2, .inl (cI, 120, .inl (fun _ => 0))), (q3, .inr (1, [.ref q4, .ref q5, .ref q6, .ref q7, .ref q8, .ref q9, .ref q10, .ref q11, .ref q12, .int 0])), (q4, .inl (cI, 52, .inl (fillN 52 5 (fun _ => 0)))), (q5, .inl (cI, 120, .inl (fun _ => 0))), (q6, .inl (cI, 10, .inl (fun _ => 0))), (q7, .inl (cI, 20, .inl (fun _ => 0))), (q8, .inl (cI, 10, .inl (fun _ => 0))), (q9, .inl (cI, 10, .inl (fun _ => 0))), (q10, .inl (cI, 10, .inl (fun _ => 0))), (q11, .inl (cI, 10, .inl (fun _ => 0))), (q12, .inl (cI, 10, .inl (fun _ => 0))), (q13, .inr (3, [.ref q14, .ref q15, .ref q16, .ref q17, .ref q18, .ref q19, .ref q20, .ref q21, .ref q22, .ref q23, .int 0, .int 0, .int 0, .int 0, .int 0])), (q14, .inl (cI, 8, .inl (fun _ => 0))), (q15, .inl (cI, 8, .inl (fun _ => 0))), (q16, .inl (cI, 32, .inl (fun _ => 0))), (q17, .inl (cI, 32, .inl (fun _ => 0))), (q18, .inl (cI, 32, .inl (fun _ => 0))), (q19, .inl (cI, 32, .inl (fun _ => 0))), (q20, .inl (cI, 32, .inl (fun _ => 0))), (q21, .inl (cI, 32, .inl (fun _ => 0))), (q22, .inl (cI, 10, .inl (fun _ => 0))), (q23, .inl (cI, 10, .inl (fun _ => 0))), (q24, .inr (2, [.ref q1, .ref q3, .ref q25, .ref q26, .ref q27, .int 0, .int 0, .int 0, .int 0, .int 0, .int 0, .int 0, .int 0])), (q25, .inl (cI, 4, .inl (fun _ => 0))), (q26, .inl (cI, 4, .inl (fun _ => 0))), (q27, .inl (cI, 4, .inl (fun _ => 0)))]) O hI dX9_init_53 fo_X9_35 ff_9_3 rfl rfl rfl rfl (Nat.le_of_ble_eq_true rfl) rfl ?_
  refine u_aload_n O dX9_init_56 rfl 0 rfl ?_
  refine u_new (ci := 4) (C := RX4) (T := TX4) (N := 2) (ty := tyX4) (fs := [.null, .null]) O dX9_init_57 inW4 tyX4_ok nw_X9_39.1 nw_X9_39.2.1 nw_X9_39.2.2 rfl (by decide) (by decide) (fun q28 => ?_)
  refine u_eq (ws' := [(h0, .inr (9, [.ref q1, .ref q3, .ref q13, .ref q24, .null, .null, .null, .null, .int 0, .int 0, .int 0])), (q1, .inr (8, [.ref q2, .int 0])), (q2, .inl (cI, 120, .inl (fun _ => 0))), (q3, .inr (1, [.ref q4, .ref q5, .ref q6, .ref q7, .ref q8, .ref q9, .ref q10, .ref q11, .ref q12, .int 0])), (q4, .inl (cI, 52, .inl (fillN 52 5 (fun _ => 0)))), (q5, .inl (cI, 120, .inl (fun _ => 0))), (q6, .inl (cI, 10, .inl (fun _ => 0))), (q7, .inl (cI, 20, .inl (fun _ => 0))), (q8, .inl (cI, 10, .inl (fun _ => 0))), (q9, .inl (cI, 10, .inl (fun _ => 0))), (q10, .inl (cI, 10, .inl (fun _ => 0))), (q11, .inl (cI, 10, .inl (fun _ => 0))), (q12, .inl (cI, 10, .inl (fun _ => 0))), (q13, .inr (3, [.ref q14, .ref q15, .ref q16, .ref q17, .ref q18, .ref q19, .ref q20, .ref q21, .ref q22, .ref q23, .int 0, .int 0, .int 0, .int 0, .int 0])), (q14, .inl (cI, 8, .inl (fun _ => 0))), (q15, .inl (cI, 8, .inl (fun _ => 0))), (q16, .inl (cI, 32, .inl (fun _ => 0))), (q17, .inl (cI, 32, .inl (fun _ => 0))), (q18, .inl (cI, 32, .inl (fun _ => 0))), (q19, .inl (cI, 32, .inl (fun _ => 0))), (q20, .inl (cI, 32, .inl (fun _ => 0))), (q21, .inl (cI, 32, .inl (fun _ => 0))), (q22, .inl (cI, 10, .inl (fun _ => 0))), (q23, .inl (cI, 10, .inl (fun _ => 0))), (q24, .inr (2, [.ref q1, .ref q3, .ref q25, .ref q26, .ref q27, .int 0, .int 0, .int 0, .int 0, .int 0, .int 0, .int 0, .int 0])), (q25, .inl (cI, 4, .inl (fun _ => 0))), (q26, .inl (cI, 4, .inl (fun _ => 0))), (q27, .inl (cI, 4, .inl (fun _ => 0))), (q28, .inr (4, [.null, .null]))]) rfl ?_
  refine u_dup O dX9_init_60 rfl ?_
  refine u_callI (kc := 28) (ks := 654) (w1 := [(h0, .inr (9, [.ref q1, .ref q3, .ref q13, .ref q24, .null, .null, .null, .null, .int 0, .int 0, .int 0])), (q1, .inr (8, [.ref q2, .int 0])), (q2, .inl (cI, 120, .inl (fun _ => 0))), (q3, .inr (1, [.ref q4, .ref q5, .ref q6, .ref q7, .ref q8, .ref q9, .ref q10, .ref q11, .ref q12, .int 0])), (q4, .inl (cI, 52, .inl (fillN 52 5 (fun _ => 0)))), (q5, .inl (cI, 120, .inl (fun _ => 0))), (q6, .inl (cI, 10, .inl (fun _ => 0))), (q7, .inl (cI, 20, .inl (fun _ => 0))), (q8, .inl (cI, 10, .inl (fun _ => 0))), (q9, .inl (cI, 10, .inl (fun _ => 0))), (q10, .inl (cI, 10, .inl (fun _ => 0))), (q11, .inl (cI, 10, .inl (fun _ => 0))), (q12, .inl (cI, 10, .inl (fun _ => 0))), (q13, .inr (3, [.ref q14, .ref q15, .ref q16, .ref q17, .ref q18, .ref q19, .ref q20, .ref q21, .ref q22, .ref q23, .int 0, .int 0, .int 0, .int 0, .int 0])), (q14, .inl (cI, 8, .inl (fun _ => 0))), (q15, .inl (cI, 8, .inl (fun _ => 0))), (q16, .inl (cI, 32, .inl (fun _ => 0))), (q17, .inl (cI, 32, .inl (fun _ => 0))), (q18, .inl (cI, 32, .inl (fun _ => 0))), (q19, .inl (cI, 32, .inl (fun _ => 0))), (q20, .inl (cI, 32, .inl (fun _ => 0))), (q21, .inl (cI, 32, .inl (fun _ => 0))), (q22, .inl (cI, 10, .inl (fun _ => 0))), (q23, .inl (cI, 10, .inl (fun _ => 0))), (q24, .inr (2, [.ref q1, .ref q3, .ref q25, .ref q26, .ref q27, .int 0, .int 0, .int 0, .int 0, .int 0, .int 0, .int 0, .int 0])), (q25, .inl (cI, 4, .inl (fun _ => 0))), (q26, .inl (cI, 4, .inl (fun _ => 0))), (q27, .inl (cI, 4, .inl (fun _ => 0)))]) (w2 := []) (b := q28) (e0 := .inr (4, [.null, .null])) (rm' := { frames := 1, cells := 2, slots := 44, locals := 23 }) (As := []) (st := [.ref q28, .ref h0]) O dX9_init_61 ci_X4_init ml_X9_41 ii_X4_init rfl ⟨rfl, rfl, (by decide), (by decide)⟩ rfl (Nat.le_of_ble_eq_true rfl) rfl (by decide) (fun sz => cI_X4_init eI eL q28 sz) (fun w0 hw0 => ?_)
  obtain ⟨q29, q30, rfl⟩ := hw0
  refine u_eq (ws' := [(h0, .inr (9, [.ref q1, .ref q3, .ref q13, .ref q24, .null, .null, .null, .null, .int 0, .int 0, .int 0])), (q1, .inr (8, [.ref q2, .int 0])), (q2, .inl (cI, 120, .inl (fun _ => 0))), (q3, .inr (1, [.ref q4, .ref q5, .ref q6, .ref q7, .ref q8, .ref q9, .ref q10, .ref q11, .ref q12, .int 0])), (q4, .inl (cI, 52, .inl (fillN 52 5 (fun _ => 0)))), (q5, .inl (cI, 120, .inl (fun _ => 0))), (q6, .inl (cI, 10, .inl (fun _ => 0))), (q7, .inl (cI, 20, .inl (fun _ => 0))), (q8, .inl (cI, 10, .inl (fun _ => 0))), (q9, .inl (cI, 10, .inl (fun _ => 0))), (q10, .inl (cI, 10, .inl (fun _ => 0))), (q11, .inl (cI, 10, .inl (fun _ => 0))), (q12, .inl (cI, 10, .inl (fun _ => 0))), (q13, .inr (3, [.ref q14, .ref q15, .ref q16, .ref q17, .ref q18, .ref q19, .ref q20, .ref q21, .ref q22, .ref q23, .int 0, .int 0, .int 0, .int 0, .int 0])), (q14, .inl (cI, 8, .inl (fun _ => 0))), (q15, .inl (cI, 8, .inl (fun _ => 0))), (q16, .inl (cI, 32, .inl (fun _ => 0))), (q17, .inl (cI, 32, .inl (fun _ => 0))), (q18, .inl (cI, 32, .inl (fun _ => 0))), (q19, .inl (cI, 32, .inl (fun _ => 0))), (q20, .inl (cI, 32, .inl (fun _ => 0))), (q21, .inl (cI, 32, .inl (fun _ => 0))), (q22, .inl (cI, 10, .inl (fun _ => 0))), (q23, .inl (cI, 10, .inl (fun _ => 0))), (q24, .inr (2, [.ref q1, .ref q3, .ref q25, .ref q26, .ref q27, .int 0, .int 0, .int 0, .int 0, .int 0, .int 0, .int 0, .int 0])), (q25, .inl (cI, 4, .inl (fun _ => 0))), (q26, .inl (cI, 4, .inl (fun _ => 0))), (q27, .inl (cI, 4, .inl (fun _ => 0))), (q28, .inr (4, [.ref q29, .ref q30])), (q29, .inl (cI, 4, .inl (fun _ => 0))), (q30, .inl (cI, 40, .inl (fillN 40 (-1) (fun _ => 0))))]) rfl ?_
  refine u_putF (q0 := 0) (ws' := [(h0, .inr (9, [.ref q1, .ref q3, .ref q13, .ref q24, .ref q28, .null, .null, .null, .int 0, .int 0, .int 0])), (q1, .inr (8, [.ref q2, .int 0])), (q2, .inl (cI, 120, .inl (fun _ => 0))), (q3, .inr (1, [.ref q4, .ref q5, .ref q6, .ref q7, .ref q8, .ref q9, .ref q10, .ref q11, .ref q12, .int 0])), (q4, .inl (cI, 52, .inl (fillN 52 5 (fun _ => 0)))), (q5, .inl (cI, 120, .inl (fun _ => 0))), (q6, .inl (cI, 10, .inl (fun _ => 0))), (q7, .inl (cI, 20, .inl (fun _ => 0))), (q8, .inl (cI, 10, .inl (fun _ => 0))), (q9, .inl (cI, 10, .inl (fun _ => 0))), (q10, .inl (cI, 10, .inl (fun _ => 0))), (q11, .inl (cI, 10, .inl (fun _ => 0))), (q12, .inl (cI, 10, .inl (fun _ => 0))), (q13, .inr (3, [.ref q14, .ref q15, .ref q16, .ref q17, .ref q18, .ref q19, .ref q20, .ref q21, .ref q22, .ref q23, .int 0, .int 0, .int 0, .int 0, .int 0])), (q14, .inl (cI, 8, .inl (fun _ => 0))), (q15, .inl (cI, 8, .inl (fun _ => 0))), (q16, .inl (cI, 32, .inl (fun _ => 0))), (q17, .inl (cI, 32, .inl (fun _ => 0))), (q18, .inl (cI, 32, .inl (fun _ => 0))), (q19, .inl (cI, 32, .inl (fun _ => 0))), (q20, .inl (cI, 32, .inl (fun _ => 0))), (q21, .inl (cI, 32, .inl (fun _ => 0))), (q22, .inl (cI, 10, .inl (fun _ => 0))), (q23, .inl (cI, 10, .inl (fun _ => 0))), (q24, .inr (2, [.ref q1, .ref q3, .ref q25, .ref q26, .ref q27, .int 0, .int 0, .int 0, .int 0, .int 0, .int 0, .int 0, .int 0])), (q25, .inl (cI, 4, .inl (fun _ => 0))), (q26, .inl (cI, 4, .inl (fun _ => 0))), (q27, .inl (cI, 4, .inl (fun _ => 0))), (q28, .inr (4, [.ref q29, .ref q30])), (q29, .inl (cI, 4, .inl (fun _ => 0))), (q30, .inl (cI, 40, .inl (fillN 40 (-1) (fun _ => 0))))]) O hI dX9_init_64 fo_X9_42 ff_9_4 rfl rfl rfl rfl (Nat.le_of_ble_eq_true rfl) rfl ?_
  refine u_aload_n O dX9_init_67 rfl 0 rfl ?_
  refine u_new (ci := 6) (C := RX6) (T := TX6) (N := 4) (ty := tyX6) (fs := [.null, .null, .null, .int 0]) O dX9_init_68 inW6 tyX6_ok nw_X9_46.1 nw_X9_46.2.1 nw_X9_46.2.2 rfl (by decide) (by decide) (fun q31 => ?_)
  refine u_eq (ws' := [(h0, .inr (9, [.ref q1, .ref q3, .ref q13, .ref q24, .ref q28, .null, .null, .null, .int 0, .int 0, .int 0])), (q1, .inr (8, [.ref q2, .int 0])), (q2, .inl (cI, 120, .inl (fun _ => 0))), (q3, .inr (1, [.ref q4, .ref q5, .ref q6, .ref q7, .ref q8, .ref q9, .ref q10, .ref q11, .ref q12, .int 0])), (q4, .inl (cI, 52, .inl (fillN 52 5 (fun _ => 0)))), (q5, .inl (cI, 120, .inl (fun _ => 0))), (q6, .inl (cI, 10, .inl (fun _ => 0))), (q7, .inl (cI, 20, .inl (fun _ => 0))), (q8, .inl (cI, 10, .inl (fun _ => 0))), (q9, .inl (cI, 10, .inl (fun _ => 0))), (q10, .inl (cI, 10, .inl (fun _ => 0))), (q11, .inl (cI, 10, .inl (fun _ => 0))), (q12, .inl (cI, 10, .inl (fun _ => 0))), (q13, .inr (3, [.ref q14, .ref q15, .ref q16, .ref q17, .ref q18, .ref q19, .ref q20, .ref q21, .ref q22, .ref q23, .int 0, .int 0, .int 0, .int 0, .int 0])), (q14, .inl (cI, 8, .inl (fun _ => 0))), (q15, .inl (cI, 8, .inl (fun _ => 0))), (q16, .inl (cI, 32, .inl (fun _ => 0))), (q17, .inl (cI, 32, .inl (fun _ => 0))), (q18, .inl (cI, 32, .inl (fun _ => 0))), (q19, .inl (cI, 32, .inl (fun _ => 0))), (q20, .inl (cI, 32, .inl (fun _ => 0))), (q21, .inl (cI, 32, .inl (fun _ => 0))), (q22, .inl (cI, 10, .inl (fun _ => 0))), (q23, .inl (cI, 10, .inl (fun _ => 0))), (q24, .inr (2, [.ref q1, .ref q3, .ref q25, .ref q26, .ref q27, .int 0, .int 0, .int 0, .int 0, .int 0, .int 0, .int 0, .int 0])), (q25, .inl (cI, 4, .inl (fun _ => 0))), (q26, .inl (cI, 4, .inl (fun _ => 0))), (q27, .inl (cI, 4, .inl (fun _ => 0))), (q28, .inr (4, [.ref q29, .ref q30])), (q29, .inl (cI, 4, .inl (fun _ => 0))), (q30, .inl (cI, 40, .inl (fillN 40 (-1) (fun _ => 0)))), (q31, .inr (6, [.null, .null, .null, .int 0]))]) rfl ?_
  refine u_dup O dX9_init_71 rfl ?_
  refine u_callIN (kc := 31) (ks := 702) (w1 := [(h0, .inr (9, [.ref q1, .ref q3, .ref q13, .ref q24, .ref q28, .null, .null, .null, .int 0, .int 0, .int 0])), (q1, .inr (8, [.ref q2, .int 0])), (q2, .inl (cI, 120, .inl (fun _ => 0))), (q3, .inr (1, [.ref q4, .ref q5, .ref q6, .ref q7, .ref q8, .ref q9, .ref q10, .ref q11, .ref q12, .int 0])), (q4, .inl (cI, 52, .inl (fillN 52 5 (fun _ => 0)))), (q5, .inl (cI, 120, .inl (fun _ => 0))), (q6, .inl (cI, 10, .inl (fun _ => 0))), (q7, .inl (cI, 20, .inl (fun _ => 0))), (q8, .inl (cI, 10, .inl (fun _ => 0))), (q9, .inl (cI, 10, .inl (fun _ => 0))), (q10, .inl (cI, 10, .inl (fun _ => 0))), (q11, .inl (cI, 10, .inl (fun _ => 0))), (q12, .inl (cI, 10, .inl (fun _ => 0))), (q13, .inr (3, [.ref q14, .ref q15, .ref q16, .ref q17, .ref q18, .ref q19, .ref q20, .ref q21, .ref q22, .ref q23, .int 0, .int 0, .int 0, .int 0, .int 0])), (q14, .inl (cI, 8, .inl (fun _ => 0))), (q15, .inl (cI, 8, .inl (fun _ => 0))), (q16, .inl (cI, 32, .inl (fun _ => 0))), (q17, .inl (cI, 32, .inl (fun _ => 0))), (q18, .inl (cI, 32, .inl (fun _ => 0))), (q19, .inl (cI, 32, .inl (fun _ => 0))), (q20, .inl (cI, 32, .inl (fun _ => 0))), (q21, .inl (cI, 32, .inl (fun _ => 0))), (q22, .inl (cI, 10, .inl (fun _ => 0))), (q23, .inl (cI, 10, .inl (fun _ => 0))), (q24, .inr (2, [.ref q1, .ref q3, .ref q25, .ref q26, .ref q27, .int 0, .int 0, .int 0, .int 0, .int 0, .int 0, .int 0, .int 0])), (q25, .inl (cI, 4, .inl (fun _ => 0))), (q26, .inl (cI, 4, .inl (fun _ => 0))), (q27, .inl (cI, 4, .inl (fun _ => 0))), (q28, .inr (4, [.ref q29, .ref q30])), (q29, .inl (cI, 4, .inl (fun _ => 0))), (q30, .inl (cI, 40, .inl (fillN 40 (-1) (fun _ => 0))))]) (w2 := []) (b := q31) (e0 := .inr (6, [.null, .null, .null, .int 0])) (rm' := { frames := 1, cells := 3, slots := 54, locals := 20 }) (As := []) (st := [.ref q31, .ref h0]) O dX9_init_72 ci_X6_init ml_X9_48 ii_X6_init rfl ⟨rfl, rfl, (by decide), (by decide)⟩ rfl (Nat.le_of_ble_eq_true rfl) rfl (by decide) (fun sz => cI_X6_init eI eL q31 sz) (fun w0 hw0 => ?_)
  obtain ⟨q32, q33, q34, rfl⟩ := hw0
  refine u_eq (ws' := [(h0, .inr (9, [.ref q1, .ref q3, .ref q13, .ref q24, .ref q28, .null, .null, .null, .int 0, .int 0, .int 0])), (q1, .inr (8, [.ref q2, .int 0])), (q2, .inl (cI, 120, .inl (fun _ => 0))), (q3, .inr (1, [.ref q4, .ref q5, .ref q6, .ref q7, .ref q8, .ref q9, .ref q10, .ref q11, .ref q12, .int 0])), (q4, .inl (cI, 52, .inl (fillN 52 5 (fun _ => 0)))), (q5, .inl (cI, 120, .inl (fun _ => 0))), (q6, .inl (cI, 10, .inl (fun _ => 0))), (q7, .inl (cI, 20, .inl (fun _ => 0))), (q8, .inl (cI, 10, .inl (fun _ => 0))), (q9, .inl (cI, 10, .inl (fun _ => 0))), (q10, .inl (cI, 10, .inl (fun _ => 0))), (q11, .inl (cI, 10, .inl (fun _ => 0))), (q12, .inl (cI, 10, .inl (fun _ => 0))), (q13, .inr (3, [.ref q14, .ref q15, .ref q16, .ref q17, .ref q18, .ref q19, .ref q20, .ref q21, .ref q22, .ref q23, .int 0, .int 0, .int 0, .int 0, .int 0])), (q14, .inl (cI, 8, .inl (fun _ => 0))), (q15, .inl (cI, 8, .inl (fun _ => 0))), (q16, .inl (cI, 32, .inl (fun _ => 0))), (q17, .inl (cI, 32, .inl (fun _ => 0))), (q18, .inl (cI, 32, .inl (fun _ => 0))), (q19, .inl (cI, 32, .inl (fun _ => 0))), (q20, .inl (cI, 32, .inl (fun _ => 0))), (q21, .inl (cI, 32, .inl (fun _ => 0))), (q22, .inl (cI, 10, .inl (fun _ => 0))), (q23, .inl (cI, 10, .inl (fun _ => 0))), (q24, .inr (2, [.ref q1, .ref q3, .ref q25, .ref q26, .ref q27, .int 0, .int 0, .int 0, .int 0, .int 0, .int 0, .int 0, .int 0])), (q25, .inl (cI, 4, .inl (fun _ => 0))), (q26, .inl (cI, 4, .inl (fun _ => 0))), (q27, .inl (cI, 4, .inl (fun _ => 0))), (q28, .inr (4, [.ref q29, .ref q30])), (q29, .inl (cI, 4, .inl (fun _ => 0))), (q30, .inl (cI, 40, .inl (fillN 40 (-1) (fun _ => 0)))), (q31, .inr (6, [.ref q32, .ref q33, .ref q34, .int 0])), (q32, .inl (cI, 18, .inl (fun _ => 0))), (q33, .inl (cI, 18, .inl (fun _ => 0))), (q34, .inl (cI, 18, .inl (fun _ => 0)))]) rfl ?_
  refine u_putF (q0 := 0) (ws' := [(h0, .inr (9, [.ref q1, .ref q3, .ref q13, .ref q24, .ref q28, .ref q31, .null, .null, .int 0, .int 0, .int 0])), (q1, .inr (8, [.ref q2, .int 0])), (q2, .inl (cI, 120, .inl (fun _ => 0))), (q3, .inr (1, [.ref q4, .ref q5, .ref q6, .ref q7, .ref q8, .ref q9, .ref q10, .ref q11, .ref q12, .int 0])), (q4, .inl (cI, 52, .inl (fillN 52 5 (fun _ => 0)))), (q5, .inl (cI, 120, .inl (fun _ => 0))), (q6, .inl (cI, 10, .inl (fun _ => 0))), (q7, .inl (cI, 20, .inl (fun _ => 0))), (q8, .inl (cI, 10, .inl (fun _ => 0))), (q9, .inl (cI, 10, .inl (fun _ => 0))), (q10, .inl (cI, 10, .inl (fun _ => 0))), (q11, .inl (cI, 10, .inl (fun _ => 0))), (q12, .inl (cI, 10, .inl (fun _ => 0))), (q13, .inr (3, [.ref q14, .ref q15, .ref q16, .ref q17, .ref q18, .ref q19, .ref q20, .ref q21, .ref q22, .ref q23, .int 0, .int 0, .int 0, .int 0, .int 0])), (q14, .inl (cI, 8, .inl (fun _ => 0))), (q15, .inl (cI, 8, .inl (fun _ => 0))), (q16, .inl (cI, 32, .inl (fun _ => 0))), (q17, .inl (cI, 32, .inl (fun _ => 0))), (q18, .inl (cI, 32, .inl (fun _ => 0))), (q19, .inl (cI, 32, .inl (fun _ => 0))), (q20, .inl (cI, 32, .inl (fun _ => 0))), (q21, .inl (cI, 32, .inl (fun _ => 0))), (q22, .inl (cI, 10, .inl (fun _ => 0))), (q23, .inl (cI, 10, .inl (fun _ => 0))), (q24, .inr (2, [.ref q1, .ref q3, .ref q25, .ref q26, .ref q27, .int 0, .int 0, .int 0, .int 0, .int 0, .int 0, .int 0, .int 0])), (q25, .inl (cI, 4, .inl (fun _ => 0))), (q26, .inl (cI, 4, .inl (fun _ => 0))), (q27, .inl (cI, 4, .inl (fun _ => 0))), (q28, .inr (4, [.ref q29, .ref q30])), (q29, .inl (cI, 4, .inl (fun _ => 0))), (q30, .inl (cI, 40, .inl (fillN 40 (-1) (fun _ => 0)))), (q31, .inr (6, [.ref q32, .ref q33, .ref q34, .int 0])), (q32, .inl (cI, 18, .inl (fun _ => 0))), (q33, .inl (cI, 18, .inl (fun _ => 0))), (q34, .inl (cI, 18, .inl (fun _ => 0)))]) O hI dX9_init_75 fo_X9_49 ff_9_5 rfl rfl rfl rfl (Nat.le_of_ble_eq_true rfl) rfl ?_
  refine u_aload_n O dX9_init_78 rfl 0 rfl ?_
  refine u_new (ci := 0) (C := RX0) (T := TX0) (N := 6) (ty := tyX0) (fs := [.null, .null, .null, .null, .null, .null]) O dX9_init_79 inW0 tyX0_ok nw_X9_53.1 nw_X9_53.2.1 nw_X9_53.2.2 rfl (by decide) (by decide) (fun q35 => ?_)
  refine u_eq (ws' := [(h0, .inr (9, [.ref q1, .ref q3, .ref q13, .ref q24, .ref q28, .ref q31, .null, .null, .int 0, .int 0, .int 0])), (q1, .inr (8, [.ref q2, .int 0])), (q2, .inl (cI, 120, .inl (fun _ => 0))), (q3, .inr (1, [.ref q4, .ref q5, .ref q6, .ref q7, .ref q8, .ref q9, .ref q10, .ref q11, .ref q12, .int 0])), (q4, .inl (cI, 52, .inl (fillN 52 5 (fun _ => 0)))), (q5, .inl (cI, 120, .inl (fun _ => 0))), (q6, .inl (cI, 10, .inl (fun _ => 0))), (q7, .inl (cI, 20, .inl (fun _ => 0))), (q8, .inl (cI, 10, .inl (fun _ => 0))), (q9, .inl (cI, 10, .inl (fun _ => 0))), (q10, .inl (cI, 10, .inl (fun _ => 0))), (q11, .inl (cI, 10, .inl (fun _ => 0))), (q12, .inl (cI, 10, .inl (fun _ => 0))), (q13, .inr (3, [.ref q14, .ref q15, .ref q16, .ref q17, .ref q18, .ref q19, .ref q20, .ref q21, .ref q22, .ref q23, .int 0, .int 0, .int 0, .int 0, .int 0])), (q14, .inl (cI, 8, .inl (fun _ => 0))), (q15, .inl (cI, 8, .inl (fun _ => 0))), (q16, .inl (cI, 32, .inl (fun _ => 0))), (q17, .inl (cI, 32, .inl (fun _ => 0))), (q18, .inl (cI, 32, .inl (fun _ => 0))), (q19, .inl (cI, 32, .inl (fun _ => 0))), (q20, .inl (cI, 32, .inl (fun _ => 0))), (q21, .inl (cI, 32, .inl (fun _ => 0))), (q22, .inl (cI, 10, .inl (fun _ => 0))), (q23, .inl (cI, 10, .inl (fun _ => 0))), (q24, .inr (2, [.ref q1, .ref q3, .ref q25, .ref q26, .ref q27, .int 0, .int 0, .int 0, .int 0, .int 0, .int 0, .int 0, .int 0])), (q25, .inl (cI, 4, .inl (fun _ => 0))), (q26, .inl (cI, 4, .inl (fun _ => 0))), (q27, .inl (cI, 4, .inl (fun _ => 0))), (q28, .inr (4, [.ref q29, .ref q30])), (q29, .inl (cI, 4, .inl (fun _ => 0))), (q30, .inl (cI, 40, .inl (fillN 40 (-1) (fun _ => 0)))), (q31, .inr (6, [.ref q32, .ref q33, .ref q34, .int 0])), (q32, .inl (cI, 18, .inl (fun _ => 0))), (q33, .inl (cI, 18, .inl (fun _ => 0))), (q34, .inl (cI, 18, .inl (fun _ => 0))), (q35, .inr (0, [.null, .null, .null, .null, .null, .null]))]) rfl ?_
  refine u_dup O dX9_init_82 rfl ?_
  refine u_aload_n O dX9_init_83 rfl 0 rfl ?_
  refine u_get (q0 := 0) O dX9_init_84 fo_X9_19 rfl rfl ?_
  refine u_aload_n O dX9_init_87 rfl 0 rfl ?_
  refine u_get (q0 := 0) O dX9_init_88 fo_X9_26 rfl rfl ?_
  refine u_aload_n O dX9_init_91 rfl 0 rfl ?_
  refine u_get (q0 := 0) O dX9_init_92 fo_X9_49 rfl rfl ?_
  refine u_callI (kc := 35) (ks := 762) (w1 := [(h0, .inr (9, [.ref q1, .ref q3, .ref q13, .ref q24, .ref q28, .ref q31, .null, .null, .int 0, .int 0, .int 0])), (q1, .inr (8, [.ref q2, .int 0])), (q2, .inl (cI, 120, .inl (fun _ => 0))), (q3, .inr (1, [.ref q4, .ref q5, .ref q6, .ref q7, .ref q8, .ref q9, .ref q10, .ref q11, .ref q12, .int 0])), (q4, .inl (cI, 52, .inl (fillN 52 5 (fun _ => 0)))), (q5, .inl (cI, 120, .inl (fun _ => 0))), (q6, .inl (cI, 10, .inl (fun _ => 0))), (q7, .inl (cI, 20, .inl (fun _ => 0))), (q8, .inl (cI, 10, .inl (fun _ => 0))), (q9, .inl (cI, 10, .inl (fun _ => 0))), (q10, .inl (cI, 10, .inl (fun _ => 0))), (q11, .inl (cI, 10, .inl (fun _ => 0))), (q12, .inl (cI, 10, .inl (fun _ => 0))), (q13, .inr (3, [.ref q14, .ref q15, .ref q16, .ref q17, .ref q18, .ref q19, .ref q20, .ref q21, .ref q22, .ref q23, .int 0, .int 0, .int 0, .int 0, .int 0])), (q14, .inl (cI, 8, .inl (fun _ => 0))), (q15, .inl (cI, 8, .inl (fun _ => 0))), (q16, .inl (cI, 32, .inl (fun _ => 0))), (q17, .inl (cI, 32, .inl (fun _ => 0))), (q18, .inl (cI, 32, .inl (fun _ => 0))), (q19, .inl (cI, 32, .inl (fun _ => 0))), (q20, .inl (cI, 32, .inl (fun _ => 0))), (q21, .inl (cI, 32, .inl (fun _ => 0))), (q22, .inl (cI, 10, .inl (fun _ => 0))), (q23, .inl (cI, 10, .inl (fun _ => 0))), (q24, .inr (2, [.ref q1, .ref q3, .ref q25, .ref q26, .ref q27, .int 0, .int 0, .int 0, .int 0, .int 0, .int 0, .int 0, .int 0])), (q25, .inl (cI, 4, .inl (fun _ => 0))), (q26, .inl (cI, 4, .inl (fun _ => 0))), (q27, .inl (cI, 4, .inl (fun _ => 0))), (q28, .inr (4, [.ref q29, .ref q30])), (q29, .inl (cI, 4, .inl (fun _ => 0))), (q30, .inl (cI, 40, .inl (fillN 40 (-1) (fun _ => 0)))), (q31, .inr (6, [.ref q32, .ref q33, .ref q34, .int 0])), (q32, .inl (cI, 18, .inl (fun _ => 0))), (q33, .inl (cI, 18, .inl (fun _ => 0))), (q34, .inl (cI, 18, .inl (fun _ => 0)))]) (w2 := []) (b := q35) (e0 := .inr (0, [.null, .null, .null, .null, .null, .null])) (rm' := { frames := 1, cells := 3, slots := 50, locals := 20 }) (As := [.ref q3, .ref q13, .ref q31]) (st := [.ref q35, .ref h0]) O dX9_init_95 ci_X0_init ml_X9_55 ii_X0_init rfl ⟨rfl, rfl, (by decide), (by decide)⟩ rfl (Nat.le_of_ble_eq_true rfl) rfl (by decide) (fun sz => cI_X0_init eI eL q35 q3 q13 q31 sz) (fun w0 hw0 => ?_)
  obtain ⟨q36, q37, q38, rfl⟩ := hw0
  refine u_eq (ws' := [(h0, .inr (9, [.ref q1, .ref q3, .ref q13, .ref q24, .ref q28, .ref q31, .null, .null, .int 0, .int 0, .int 0])), (q1, .inr (8, [.ref q2, .int 0])), (q2, .inl (cI, 120, .inl (fun _ => 0))), (q3, .inr (1, [.ref q4, .ref q5, .ref q6, .ref q7, .ref q8, .ref q9, .ref q10, .ref q11, .ref q12, .int 0])), (q4, .inl (cI, 52, .inl (fillN 52 5 (fun _ => 0)))), (q5, .inl (cI, 120, .inl (fun _ => 0))), (q6, .inl (cI, 10, .inl (fun _ => 0))), (q7, .inl (cI, 20, .inl (fun _ => 0))), (q8, .inl (cI, 10, .inl (fun _ => 0))), (q9, .inl (cI, 10, .inl (fun _ => 0))), (q10, .inl (cI, 10, .inl (fun _ => 0))), (q11, .inl (cI, 10, .inl (fun _ => 0))), (q12, .inl (cI, 10, .inl (fun _ => 0))), (q13, .inr (3, [.ref q14, .ref q15, .ref q16, .ref q17, .ref q18, .ref q19, .ref q20, .ref q21, .ref q22, .ref q23, .int 0, .int 0, .int 0, .int 0, .int 0])), (q14, .inl (cI, 8, .inl (fun _ => 0))), (q15, .inl (cI, 8, .inl (fun _ => 0))), (q16, .inl (cI, 32, .inl (fun _ => 0))), (q17, .inl (cI, 32, .inl (fun _ => 0))), (q18, .inl (cI, 32, .inl (fun _ => 0))), (q19, .inl (cI, 32, .inl (fun _ => 0))), (q20, .inl (cI, 32, .inl (fun _ => 0))), (q21, .inl (cI, 32, .inl (fun _ => 0))), (q22, .inl (cI, 10, .inl (fun _ => 0))), (q23, .inl (cI, 10, .inl (fun _ => 0))), (q24, .inr (2, [.ref q1, .ref q3, .ref q25, .ref q26, .ref q27, .int 0, .int 0, .int 0, .int 0, .int 0, .int 0, .int 0, .int 0])), (q25, .inl (cI, 4, .inl (fun _ => 0))), (q26, .inl (cI, 4, .inl (fun _ => 0))), (q27, .inl (cI, 4, .inl (fun _ => 0))), (q28, .inr (4, [.ref q29, .ref q30])), (q29, .inl (cI, 4, .inl (fun _ => 0))), (q30, .inl (cI, 40, .inl (fillN 40 (-1) (fun _ => 0)))), (q31, .inr (6, [.ref q32, .ref q33, .ref q34, .int 0])), (q32, .inl (cI, 18, .inl (fun _ => 0))), (q33, .inl (cI, 18, .inl (fun _ => 0))), (q34, .inl (cI, 18, .inl (fun _ => 0))), (q35, .inr (0, [.ref q3, .ref q13, .ref q31, .ref q36, .ref q37, .ref q38])), (q36, .inl (cI, 32, .inl (fun _ => 0))), (q37, .inl (cI, 8, .inl (fun _ => 0))), (q38, .inl (cI, 10, .inl (fun _ => 0)))]) rfl ?_
  refine u_putF (q0 := 0) (ws' := [(h0, .inr (9, [.ref q1, .ref q3, .ref q13, .ref q24, .ref q28, .ref q31, .ref q35, .null, .int 0, .int 0, .int 0])), (q1, .inr (8, [.ref q2, .int 0])), (q2, .inl (cI, 120, .inl (fun _ => 0))), (q3, .inr (1, [.ref q4, .ref q5, .ref q6, .ref q7, .ref q8, .ref q9, .ref q10, .ref q11, .ref q12, .int 0])), (q4, .inl (cI, 52, .inl (fillN 52 5 (fun _ => 0)))), (q5, .inl (cI, 120, .inl (fun _ => 0))), (q6, .inl (cI, 10, .inl (fun _ => 0))), (q7, .inl (cI, 20, .inl (fun _ => 0))), (q8, .inl (cI, 10, .inl (fun _ => 0))), (q9, .inl (cI, 10, .inl (fun _ => 0))), (q10, .inl (cI, 10, .inl (fun _ => 0))), (q11, .inl (cI, 10, .inl (fun _ => 0))), (q12, .inl (cI, 10, .inl (fun _ => 0))), (q13, .inr (3, [.ref q14, .ref q15, .ref q16, .ref q17, .ref q18, .ref q19, .ref q20, .ref q21, .ref q22, .ref q23, .int 0, .int 0, .int 0, .int 0, .int 0])), (q14, .inl (cI, 8, .inl (fun _ => 0))), (q15, .inl (cI, 8, .inl (fun _ => 0))), (q16, .inl (cI, 32, .inl (fun _ => 0))), (q17, .inl (cI, 32, .inl (fun _ => 0))), (q18, .inl (cI, 32, .inl (fun _ => 0))), (q19, .inl (cI, 32, .inl (fun _ => 0))), (q20, .inl (cI, 32, .inl (fun _ => 0))), (q21, .inl (cI, 32, .inl (fun _ => 0))), (q22, .inl (cI, 10, .inl (fun _ => 0))), (q23, .inl (cI, 10, .inl (fun _ => 0))), (q24, .inr (2, [.ref q1, .ref q3, .ref q25, .ref q26, .ref q27, .int 0, .int 0, .int 0, .int 0, .int 0, .int 0, .int 0, .int 0])), (q25, .inl (cI, 4, .inl (fun _ => 0))), (q26, .inl (cI, 4, .inl (fun _ => 0))), (q27, .inl (cI, 4, .inl (fun _ => 0))), (q28, .inr (4, [.ref q29, .ref q30])), (q29, .inl (cI, 4, .inl (fun _ => 0))), (q30, .inl (cI, 40, .inl (fillN 40 (-1) (fun _ => 0)))), (q31, .inr (6, [.ref q32, .ref q33, .ref q34, .int 0])), (q32, .inl (cI, 18, .inl (fun _ => 0))), (q33, .inl (cI, 18, .inl (fun _ => 0))), (q34, .inl (cI, 18, .inl (fun _ => 0))), (q35, .inr (0, [.ref q3, .ref q13, .ref q31, .ref q36, .ref q37, .ref q38])), (q36, .inl (cI, 32, .inl (fun _ => 0))), (q37, .inl (cI, 8, .inl (fun _ => 0))), (q38, .inl (cI, 10, .inl (fun _ => 0)))]) O hI dX9_init_98 fo_X9_58 ff_9_6 rfl rfl rfl rfl (Nat.le_of_ble_eq_true rfl) rfl ?_
  refine u_aload_n O dX9_init_101 rfl 0 rfl ?_
  refine u_new (ci := 5) (C := RX5) (T := TX5) (N := 12) (ty := tyX5) (fs := [.null, .null, .null, .null, .null, .null, .null, .null, .null, .int 0, .int 0, .int 0]) O dX9_init_102 inW5 tyX5_ok nw_X9_62.1 nw_X9_62.2.1 nw_X9_62.2.2 rfl (by decide) (by decide) (fun q39 => ?_)
  refine u_eq (ws' := [(h0, .inr (9, [.ref q1, .ref q3, .ref q13, .ref q24, .ref q28, .ref q31, .ref q35, .null, .int 0, .int 0, .int 0])), (q1, .inr (8, [.ref q2, .int 0])), (q2, .inl (cI, 120, .inl (fun _ => 0))), (q3, .inr (1, [.ref q4, .ref q5, .ref q6, .ref q7, .ref q8, .ref q9, .ref q10, .ref q11, .ref q12, .int 0])), (q4, .inl (cI, 52, .inl (fillN 52 5 (fun _ => 0)))), (q5, .inl (cI, 120, .inl (fun _ => 0))), (q6, .inl (cI, 10, .inl (fun _ => 0))), (q7, .inl (cI, 20, .inl (fun _ => 0))), (q8, .inl (cI, 10, .inl (fun _ => 0))), (q9, .inl (cI, 10, .inl (fun _ => 0))), (q10, .inl (cI, 10, .inl (fun _ => 0))), (q11, .inl (cI, 10, .inl (fun _ => 0))), (q12, .inl (cI, 10, .inl (fun _ => 0))), (q13, .inr (3, [.ref q14, .ref q15, .ref q16, .ref q17, .ref q18, .ref q19, .ref q20, .ref q21, .ref q22, .ref q23, .int 0, .int 0, .int 0, .int 0, .int 0])), (q14, .inl (cI, 8, .inl (fun _ => 0))), (q15, .inl (cI, 8, .inl (fun _ => 0))), (q16, .inl (cI, 32, .inl (fun _ => 0))), (q17, .inl (cI, 32, .inl (fun _ => 0))), (q18, .inl (cI, 32, .inl (fun _ => 0))), (q19, .inl (cI, 32, .inl (fun _ => 0))), (q20, .inl (cI, 32, .inl (fun _ => 0))), (q21, .inl (cI, 32, .inl (fun _ => 0))), (q22, .inl (cI, 10, .inl (fun _ => 0))), (q23, .inl (cI, 10, .inl (fun _ => 0))), (q24, .inr (2, [.ref q1, .ref q3, .ref q25, .ref q26, .ref q27, .int 0, .int 0, .int 0, .int 0, .int 0, .int 0, .int 0, .int 0])), (q25, .inl (cI, 4, .inl (fun _ => 0))), (q26, .inl (cI, 4, .inl (fun _ => 0))), (q27, .inl (cI, 4, .inl (fun _ => 0))), (q28, .inr (4, [.ref q29, .ref q30])), (q29, .inl (cI, 4, .inl (fun _ => 0))), (q30, .inl (cI, 40, .inl (fillN 40 (-1) (fun _ => 0)))), (q31, .inr (6, [.ref q32, .ref q33, .ref q34, .int 0])), (q32, .inl (cI, 18, .inl (fun _ => 0))), (q33, .inl (cI, 18, .inl (fun _ => 0))), (q34, .inl (cI, 18, .inl (fun _ => 0))), (q35, .inr (0, [.ref q3, .ref q13, .ref q31, .ref q36, .ref q37, .ref q38])), (q36, .inl (cI, 32, .inl (fun _ => 0))), (q37, .inl (cI, 8, .inl (fun _ => 0))), (q38, .inl (cI, 10, .inl (fun _ => 0))), (q39, .inr (5, [.null, .null, .null, .null, .null, .null, .null, .null, .null, .int 0, .int 0, .int 0]))]) rfl ?_
  refine u_dup O dX9_init_105 rfl ?_
  refine u_aload_n O dX9_init_106 rfl 0 rfl ?_
  refine u_get (q0 := 0) O dX9_init_107 fo_X9_19 rfl rfl ?_
  refine u_aload_n O dX9_init_110 rfl 0 rfl ?_
  refine u_get (q0 := 0) O dX9_init_111 fo_X9_49 rfl rfl ?_
  refine u_callI (kc := 39) (ks := 824) (w1 := [(h0, .inr (9, [.ref q1, .ref q3, .ref q13, .ref q24, .ref q28, .ref q31, .ref q35, .null, .int 0, .int 0, .int 0])), (q1, .inr (8, [.ref q2, .int 0])), (q2, .inl (cI, 120, .inl (fun _ => 0))), (q3, .inr (1, [.ref q4, .ref q5, .ref q6, .ref q7, .ref q8, .ref q9, .ref q10, .ref q11, .ref q12, .int 0])), (q4, .inl (cI, 52, .inl (fillN 52 5 (fun _ => 0)))), (q5, .inl (cI, 120, .inl (fun _ => 0))), (q6, .inl (cI, 10, .inl (fun _ => 0))), (q7, .inl (cI, 20, .inl (fun _ => 0))), (q8, .inl (cI, 10, .inl (fun _ => 0))), (q9, .inl (cI, 10, .inl (fun _ => 0))), (q10, .inl (cI, 10, .inl (fun _ => 0))), (q11, .inl (cI, 10, .inl (fun _ => 0))), (q12, .inl (cI, 10, .inl (fun _ => 0))), (q13, .inr (3, [.ref q14, .ref q15, .ref q16, .ref q17, .ref q18, .ref q19, .ref q20, .ref q21, .ref q22, .ref q23, .int 0, .int 0, .int 0, .int 0, .int 0])), (q14, .inl (cI, 8, .inl (fun _ => 0))), (q15, .inl (cI, 8, .inl (fun _ => 0))), (q16, .inl (cI, 32, .inl (fun _ => 0))), (q17, .inl (cI, 32, .inl (fun _ => 0))), (q18, .inl (cI, 32, .inl (fun _ => 0))), (q19, .inl (cI, 32, .inl (fun _ => 0))), (q20, .inl (cI, 32, .inl (fun _ => 0))), (q21, .inl (cI, 32, .inl (fun _ => 0))), (q22, .inl (cI, 10, .inl (fun _ => 0))), (q23, .inl (cI, 10, .inl (fun _ => 0))), (q24, .inr (2, [.ref q1, .ref q3, .ref q25, .ref q26, .ref q27, .int 0, .int 0, .int 0, .int 0, .int 0, .int 0, .int 0, .int 0])), (q25, .inl (cI, 4, .inl (fun _ => 0))), (q26, .inl (cI, 4, .inl (fun _ => 0))), (q27, .inl (cI, 4, .inl (fun _ => 0))), (q28, .inr (4, [.ref q29, .ref q30])), (q29, .inl (cI, 4, .inl (fun _ => 0))), (q30, .inl (cI, 40, .inl (fillN 40 (-1) (fun _ => 0)))), (q31, .inr (6, [.ref q32, .ref q33, .ref q34, .int 0])), (q32, .inl (cI, 18, .inl (fun _ => 0))), (q33, .inl (cI, 18, .inl (fun _ => 0))), (q34, .inl (cI, 18, .inl (fun _ => 0))), (q35, .inr (0, [.ref q3, .ref q13, .ref q31, .ref q36, .ref q37, .ref q38])), (q36, .inl (cI, 32, .inl (fun _ => 0))), (q37, .inl (cI, 8, .inl (fun _ => 0))), (q38, .inl (cI, 10, .inl (fun _ => 0)))]) (w2 := []) (b := q39) (e0 := .inr (5, [.null, .null, .null, .null, .null, .null, .null, .null, .null, .int 0, .int 0, .int 0])) (rm' := { frames := 2, cells := 8, slots := 133, locals := 40 }) (As := [.ref q3, .ref q31]) (st := [.ref q39, .ref h0]) O dX9_init_114 ci_X5_init ml_X9_64 ii_X5_init rfl ⟨rfl, rfl, (by decide), (by decide)⟩ rfl (Nat.le_of_ble_eq_true rfl) rfl (by decide) (fun sz => cI_X5_init eI eL q39 q3 q31 sz) (fun w0 hw0 => ?_)
  obtain ⟨q40, q41, q42, q43, q44, q45, q46, q47, rfl⟩ := hw0
  refine u_eq (ws' := [(h0, .inr (9, [.ref q1, .ref q3, .ref q13, .ref q24, .ref q28, .ref q31, .ref q35, .null, .int 0, .int 0, .int 0])), (q1, .inr (8, [.ref q2, .int 0])), (q2, .inl (cI, 120, .inl (fun _ => 0))), (q3, .inr (1, [.ref q4, .ref q5, .ref q6, .ref q7, .ref q8, .ref q9, .ref q10, .ref q11, .ref q12, .int 0])), (q4, .inl (cI, 52, .inl (fillN 52 5 (fun _ => 0)))), (q5, .inl (cI, 120, .inl (fun _ => 0))), (q6, .inl (cI, 10, .inl (fun _ => 0))), (q7, .inl (cI, 20, .inl (fun _ => 0))), (q8, .inl (cI, 10, .inl (fun _ => 0))), (q9, .inl (cI, 10, .inl (fun _ => 0))), (q10, .inl (cI, 10, .inl (fun _ => 0))), (q11, .inl (cI, 10, .inl (fun _ => 0))), (q12, .inl (cI, 10, .inl (fun _ => 0))), (q13, .inr (3, [.ref q14, .ref q15, .ref q16, .ref q17, .ref q18, .ref q19, .ref q20, .ref q21, .ref q22, .ref q23, .int 0, .int 0, .int 0, .int 0, .int 0])), (q14, .inl (cI, 8, .inl (fun _ => 0))), (q15, .inl (cI, 8, .inl (fun _ => 0))), (q16, .inl (cI, 32, .inl (fun _ => 0))), (q17, .inl (cI, 32, .inl (fun _ => 0))), (q18, .inl (cI, 32, .inl (fun _ => 0))), (q19, .inl (cI, 32, .inl (fun _ => 0))), (q20, .inl (cI, 32, .inl (fun _ => 0))), (q21, .inl (cI, 32, .inl (fun _ => 0))), (q22, .inl (cI, 10, .inl (fun _ => 0))), (q23, .inl (cI, 10, .inl (fun _ => 0))), (q24, .inr (2, [.ref q1, .ref q3, .ref q25, .ref q26, .ref q27, .int 0, .int 0, .int 0, .int 0, .int 0, .int 0, .int 0, .int 0])), (q25, .inl (cI, 4, .inl (fun _ => 0))), (q26, .inl (cI, 4, .inl (fun _ => 0))), (q27, .inl (cI, 4, .inl (fun _ => 0))), (q28, .inr (4, [.ref q29, .ref q30])), (q29, .inl (cI, 4, .inl (fun _ => 0))), (q30, .inl (cI, 40, .inl (fillN 40 (-1) (fun _ => 0)))), (q31, .inr (6, [.ref q32, .ref q33, .ref q34, .int 0])), (q32, .inl (cI, 18, .inl (fun _ => 0))), (q33, .inl (cI, 18, .inl (fun _ => 0))), (q34, .inl (cI, 18, .inl (fun _ => 0))), (q35, .inr (0, [.ref q3, .ref q13, .ref q31, .ref q36, .ref q37, .ref q38])), (q36, .inl (cI, 32, .inl (fun _ => 0))), (q37, .inl (cI, 8, .inl (fun _ => 0))), (q38, .inl (cI, 10, .inl (fun _ => 0))), (q39, .inr (5, [.ref q3, .ref q31, .ref q40, .ref q42, .ref q43, .ref q44, .ref q45, .ref q46, .ref q47, .int 0, .int 0, .int 0])), (q40, .inr (7, [.ref q41, .int 0, .int 0, .long 0, .long 0, .int (-1), .int (-1)])), (q41, .inl (cI, 18, .inl (fun _ => 0))), (q42, .inl (cI, 18, .inl (fun _ => 0))), (q43, .inl (cI, 18, .inl (fun _ => 0))), (q44, .inl (cI, 18, .inl (fun _ => 0))), (q45, .inl (cI, 18, .inl (fun _ => 0))), (q46, .inl (cI, 18, .inl (fun _ => 0))), (q47, .inl (cL, 18, .inr (.inl (fun _ => 0))))]) rfl ?_
  refine u_putF (q0 := 0) (ws' := [(h0, .inr (9, [.ref q1, .ref q3, .ref q13, .ref q24, .ref q28, .ref q31, .ref q35, .ref q39, .int 0, .int 0, .int 0])), (q1, .inr (8, [.ref q2, .int 0])), (q2, .inl (cI, 120, .inl (fun _ => 0))), (q3, .inr (1, [.ref q4, .ref q5, .ref q6, .ref q7, .ref q8, .ref q9, .ref q10, .ref q11, .ref q12, .int 0])), (q4, .inl (cI, 52, .inl (fillN 52 5 (fun _ => 0)))), (q5, .inl (cI, 120, .inl (fun _ => 0))), (q6, .inl (cI, 10, .inl (fun _ => 0))), (q7, .inl (cI, 20, .inl (fun _ => 0))), (q8, .inl (cI, 10, .inl (fun _ => 0))), (q9, .inl (cI, 10, .inl (fun _ => 0))), (q10, .inl (cI, 10, .inl (fun _ => 0))), (q11, .inl (cI, 10, .inl (fun _ => 0))), (q12, .inl (cI, 10, .inl (fun _ => 0))), (q13, .inr (3, [.ref q14, .ref q15, .ref q16, .ref q17, .ref q18, .ref q19, .ref q20, .ref q21, .ref q22, .ref q23, .int 0, .int 0, .int 0, .int 0, .int 0])), (q14, .inl (cI, 8, .inl (fun _ => 0))), (q15, .inl (cI, 8, .inl (fun _ => 0))), (q16, .inl (cI, 32, .inl (fun _ => 0))), (q17, .inl (cI, 32, .inl (fun _ => 0))), (q18, .inl (cI, 32, .inl (fun _ => 0))), (q19, .inl (cI, 32, .inl (fun _ => 0))), (q20, .inl (cI, 32, .inl (fun _ => 0))), (q21, .inl (cI, 32, .inl (fun _ => 0))), (q22, .inl (cI, 10, .inl (fun _ => 0))), (q23, .inl (cI, 10, .inl (fun _ => 0))), (q24, .inr (2, [.ref q1, .ref q3, .ref q25, .ref q26, .ref q27, .int 0, .int 0, .int 0, .int 0, .int 0, .int 0, .int 0, .int 0])), (q25, .inl (cI, 4, .inl (fun _ => 0))), (q26, .inl (cI, 4, .inl (fun _ => 0))), (q27, .inl (cI, 4, .inl (fun _ => 0))), (q28, .inr (4, [.ref q29, .ref q30])), (q29, .inl (cI, 4, .inl (fun _ => 0))), (q30, .inl (cI, 40, .inl (fillN 40 (-1) (fun _ => 0)))), (q31, .inr (6, [.ref q32, .ref q33, .ref q34, .int 0])), (q32, .inl (cI, 18, .inl (fun _ => 0))), (q33, .inl (cI, 18, .inl (fun _ => 0))), (q34, .inl (cI, 18, .inl (fun _ => 0))), (q35, .inr (0, [.ref q3, .ref q13, .ref q31, .ref q36, .ref q37, .ref q38])), (q36, .inl (cI, 32, .inl (fun _ => 0))), (q37, .inl (cI, 8, .inl (fun _ => 0))), (q38, .inl (cI, 10, .inl (fun _ => 0))), (q39, .inr (5, [.ref q3, .ref q31, .ref q40, .ref q42, .ref q43, .ref q44, .ref q45, .ref q46, .ref q47, .int 0, .int 0, .int 0])), (q40, .inr (7, [.ref q41, .int 0, .int 0, .long 0, .long 0, .int (-1), .int (-1)])), (q41, .inl (cI, 18, .inl (fun _ => 0))), (q42, .inl (cI, 18, .inl (fun _ => 0))), (q43, .inl (cI, 18, .inl (fun _ => 0))), (q44, .inl (cI, 18, .inl (fun _ => 0))), (q45, .inl (cI, 18, .inl (fun _ => 0))), (q46, .inl (cI, 18, .inl (fun _ => 0))), (q47, .inl (cL, 18, .inr (.inl (fun _ => 0))))]) O hI dX9_init_117 fo_X9_67 ff_9_7 rfl rfl rfl rfl (Nat.le_of_ble_eq_true rfl) rfl ?_
  refine u_aload_n O dX9_init_120 rfl 0 rfl ?_
  refine u_iconst O dX9_init_121 kc_0 ?_
  refine u_put (q0 := 0) (ws' := [(h0, .inr (9, [.ref q1, .ref q3, .ref q13, .ref q24, .ref q28, .ref q31, .ref q35, .ref q39, .int 0, .int 0, .int 0])), (q1, .inr (8, [.ref q2, .int 0])), (q2, .inl (cI, 120, .inl (fun _ => 0))), (q3, .inr (1, [.ref q4, .ref q5, .ref q6, .ref q7, .ref q8, .ref q9, .ref q10, .ref q11, .ref q12, .int 0])), (q4, .inl (cI, 52, .inl (fillN 52 5 (fun _ => 0)))), (q5, .inl (cI, 120, .inl (fun _ => 0))), (q6, .inl (cI, 10, .inl (fun _ => 0))), (q7, .inl (cI, 20, .inl (fun _ => 0))), (q8, .inl (cI, 10, .inl (fun _ => 0))), (q9, .inl (cI, 10, .inl (fun _ => 0))), (q10, .inl (cI, 10, .inl (fun _ => 0))), (q11, .inl (cI, 10, .inl (fun _ => 0))), (q12, .inl (cI, 10, .inl (fun _ => 0))), (q13, .inr (3, [.ref q14, .ref q15, .ref q16, .ref q17, .ref q18, .ref q19, .ref q20, .ref q21, .ref q22, .ref q23, .int 0, .int 0, .int 0, .int 0, .int 0])), (q14, .inl (cI, 8, .inl (fun _ => 0))), (q15, .inl (cI, 8, .inl (fun _ => 0))), (q16, .inl (cI, 32, .inl (fun _ => 0))), (q17, .inl (cI, 32, .inl (fun _ => 0))), (q18, .inl (cI, 32, .inl (fun _ => 0))), (q19, .inl (cI, 32, .inl (fun _ => 0))), (q20, .inl (cI, 32, .inl (fun _ => 0))), (q21, .inl (cI, 32, .inl (fun _ => 0))), (q22, .inl (cI, 10, .inl (fun _ => 0))), (q23, .inl (cI, 10, .inl (fun _ => 0))), (q24, .inr (2, [.ref q1, .ref q3, .ref q25, .ref q26, .ref q27, .int 0, .int 0, .int 0, .int 0, .int 0, .int 0, .int 0, .int 0])), (q25, .inl (cI, 4, .inl (fun _ => 0))), (q26, .inl (cI, 4, .inl (fun _ => 0))), (q27, .inl (cI, 4, .inl (fun _ => 0))), (q28, .inr (4, [.ref q29, .ref q30])), (q29, .inl (cI, 4, .inl (fun _ => 0))), (q30, .inl (cI, 40, .inl (fillN 40 (-1) (fun _ => 0)))), (q31, .inr (6, [.ref q32, .ref q33, .ref q34, .int 0])), (q32, .inl (cI, 18, .inl (fun _ => 0))), (q33, .inl (cI, 18, .inl (fun _ => 0))), (q34, .inl (cI, 18, .inl (fun _ => 0))), (q35, .inr (0, [.ref q3, .ref q13, .ref q31, .ref q36, .ref q37, .ref q38])), (q36, .inl (cI, 32, .inl (fun _ => 0))), (q37, .inl (cI, 8, .inl (fun _ => 0))), (q38, .inl (cI, 10, .inl (fun _ => 0))), (q39, .inr (5, [.ref q3, .ref q31, .ref q40, .ref q42, .ref q43, .ref q44, .ref q45, .ref q46, .ref q47, .int 0, .int 0, .int 0])), (q40, .inr (7, [.ref q41, .int 0, .int 0, .long 0, .long 0, .int (-1), .int (-1)])), (q41, .inl (cI, 18, .inl (fun _ => 0))), (q42, .inl (cI, 18, .inl (fun _ => 0))), (q43, .inl (cI, 18, .inl (fun _ => 0))), (q44, .inl (cI, 18, .inl (fun _ => 0))), (q45, .inl (cI, 18, .inl (fun _ => 0))), (q46, .inl (cI, 18, .inl (fun _ => 0))), (q47, .inl (cL, 18, .inr (.inl (fun _ => 0))))]) O dX9_init_122 fo_X9_71 fp_9_8 rfl rfl rfl (Nat.le_of_ble_eq_true rfl) rfl ?_
  refine u_aload_n O dX9_init_125 rfl 0 rfl ?_
  refine u_iconst O dX9_init_126 kc_0 ?_
  refine u_put (q0 := 0) (ws' := [(h0, .inr (9, [.ref q1, .ref q3, .ref q13, .ref q24, .ref q28, .ref q31, .ref q35, .ref q39, .int 0, .int 0, .int 0])), (q1, .inr (8, [.ref q2, .int 0])), (q2, .inl (cI, 120, .inl (fun _ => 0))), (q3, .inr (1, [.ref q4, .ref q5, .ref q6, .ref q7, .ref q8, .ref q9, .ref q10, .ref q11, .ref q12, .int 0])), (q4, .inl (cI, 52, .inl (fillN 52 5 (fun _ => 0)))), (q5, .inl (cI, 120, .inl (fun _ => 0))), (q6, .inl (cI, 10, .inl (fun _ => 0))), (q7, .inl (cI, 20, .inl (fun _ => 0))), (q8, .inl (cI, 10, .inl (fun _ => 0))), (q9, .inl (cI, 10, .inl (fun _ => 0))), (q10, .inl (cI, 10, .inl (fun _ => 0))), (q11, .inl (cI, 10, .inl (fun _ => 0))), (q12, .inl (cI, 10, .inl (fun _ => 0))), (q13, .inr (3, [.ref q14, .ref q15, .ref q16, .ref q17, .ref q18, .ref q19, .ref q20, .ref q21, .ref q22, .ref q23, .int 0, .int 0, .int 0, .int 0, .int 0])), (q14, .inl (cI, 8, .inl (fun _ => 0))), (q15, .inl (cI, 8, .inl (fun _ => 0))), (q16, .inl (cI, 32, .inl (fun _ => 0))), (q17, .inl (cI, 32, .inl (fun _ => 0))), (q18, .inl (cI, 32, .inl (fun _ => 0))), (q19, .inl (cI, 32, .inl (fun _ => 0))), (q20, .inl (cI, 32, .inl (fun _ => 0))), (q21, .inl (cI, 32, .inl (fun _ => 0))), (q22, .inl (cI, 10, .inl (fun _ => 0))), (q23, .inl (cI, 10, .inl (fun _ => 0))), (q24, .inr (2, [.ref q1, .ref q3, .ref q25, .ref q26, .ref q27, .int 0, .int 0, .int 0, .int 0, .int 0, .int 0, .int 0, .int 0])), (q25, .inl (cI, 4, .inl (fun _ => 0))), (q26, .inl (cI, 4, .inl (fun _ => 0))), (q27, .inl (cI, 4, .inl (fun _ => 0))), (q28, .inr (4, [.ref q29, .ref q30])), (q29, .inl (cI, 4, .inl (fun _ => 0))), (q30, .inl (cI, 40, .inl (fillN 40 (-1) (fun _ => 0)))), (q31, .inr (6, [.ref q32, .ref q33, .ref q34, .int 0])), (q32, .inl (cI, 18, .inl (fun _ => 0))), (q33, .inl (cI, 18, .inl (fun _ => 0))), (q34, .inl (cI, 18, .inl (fun _ => 0))), (q35, .inr (0, [.ref q3, .ref q13, .ref q31, .ref q36, .ref q37, .ref q38])), (q36, .inl (cI, 32, .inl (fun _ => 0))), (q37, .inl (cI, 8, .inl (fun _ => 0))), (q38, .inl (cI, 10, .inl (fun _ => 0))), (q39, .inr (5, [.ref q3, .ref q31, .ref q40, .ref q42, .ref q43, .ref q44, .ref q45, .ref q46, .ref q47, .int 0, .int 0, .int 0])), (q40, .inr (7, [.ref q41, .int 0, .int 0, .long 0, .long 0, .int (-1), .int (-1)])), (q41, .inl (cI, 18, .inl (fun _ => 0))), (q42, .inl (cI, 18, .inl (fun _ => 0))), (q43, .inl (cI, 18, .inl (fun _ => 0))), (q44, .inl (cI, 18, .inl (fun _ => 0))), (q45, .inl (cI, 18, .inl (fun _ => 0))), (q46, .inl (cI, 18, .inl (fun _ => 0))), (q47, .inl (cL, 18, .inr (.inl (fun _ => 0))))]) O dX9_init_127 fo_X9_75 fp_9_9 rfl rfl rfl (Nat.le_of_ble_eq_true rfl) rfl ?_
  refine u_aload_n O dX9_init_130 rfl 0 rfl ?_
  refine u_iconst O dX9_init_131 kc_m1 ?_
  refine u_put (q0 := 0) (ws' := [(h0, .inr (9, [.ref q1, .ref q3, .ref q13, .ref q24, .ref q28, .ref q31, .ref q35, .ref q39, .int 0, .int 0, .int (-1)])), (q1, .inr (8, [.ref q2, .int 0])), (q2, .inl (cI, 120, .inl (fun _ => 0))), (q3, .inr (1, [.ref q4, .ref q5, .ref q6, .ref q7, .ref q8, .ref q9, .ref q10, .ref q11, .ref q12, .int 0])), (q4, .inl (cI, 52, .inl (fillN 52 5 (fun _ => 0)))), (q5, .inl (cI, 120, .inl (fun _ => 0))), (q6, .inl (cI, 10, .inl (fun _ => 0))), (q7, .inl (cI, 20, .inl (fun _ => 0))), (q8, .inl (cI, 10, .inl (fun _ => 0))), (q9, .inl (cI, 10, .inl (fun _ => 0))), (q10, .inl (cI, 10, .inl (fun _ => 0))), (q11, .inl (cI, 10, .inl (fun _ => 0))), (q12, .inl (cI, 10, .inl (fun _ => 0))), (q13, .inr (3, [.ref q14, .ref q15, .ref q16, .ref q17, .ref q18, .ref q19, .ref q20, .ref q21, .ref q22, .ref q23, .int 0, .int 0, .int 0, .int 0, .int 0])), (q14, .inl (cI, 8, .inl (fun _ => 0))), (q15, .inl (cI, 8, .inl (fun _ => 0))), (q16, .inl (cI, 32, .inl (fun _ => 0))), (q17, .inl (cI, 32, .inl (fun _ => 0))), (q18, .inl (cI, 32, .inl (fun _ => 0))), (q19, .inl (cI, 32, .inl (fun _ => 0))), (q20, .inl (cI, 32, .inl (fun _ => 0))), (q21, .inl (cI, 32, .inl (fun _ => 0))), (q22, .inl (cI, 10, .inl (fun _ => 0))), (q23, .inl (cI, 10, .inl (fun _ => 0))), (q24, .inr (2, [.ref q1, .ref q3, .ref q25, .ref q26, .ref q27, .int 0, .int 0, .int 0, .int 0, .int 0, .int 0, .int 0, .int 0])), (q25, .inl (cI, 4, .inl (fun _ => 0))), (q26, .inl (cI, 4, .inl (fun _ => 0))), (q27, .inl (cI, 4, .inl (fun _ => 0))), (q28, .inr (4, [.ref q29, .ref q30])), (q29, .inl (cI, 4, .inl (fun _ => 0))), (q30, .inl (cI, 40, .inl (fillN 40 (-1) (fun _ => 0)))), (q31, .inr (6, [.ref q32, .ref q33, .ref q34, .int 0])), (q32, .inl (cI, 18, .inl (fun _ => 0))), (q33, .inl (cI, 18, .inl (fun _ => 0))), (q34, .inl (cI, 18, .inl (fun _ => 0))), (q35, .inr (0, [.ref q3, .ref q13, .ref q31, .ref q36, .ref q37, .ref q38])), (q36, .inl (cI, 32, .inl (fun _ => 0))), (q37, .inl (cI, 8, .inl (fun _ => 0))), (q38, .inl (cI, 10, .inl (fun _ => 0))), (q39, .inr (5, [.ref q3, .ref q31, .ref q40, .ref q42, .ref q43, .ref q44, .ref q45, .ref q46, .ref q47, .int 0, .int 0, .int 0])), (q40, .inr (7, [.ref q41, .int 0, .int 0, .long 0, .long 0, .int (-1), .int (-1)])), (q41, .inl (cI, 18, .inl (fun _ => 0))), (q42, .inl (cI, 18, .inl (fun _ => 0))), (q43, .inl (cI, 18, .inl (fun _ => 0))), (q44, .inl (cI, 18, .inl (fun _ => 0))), (q45, .inl (cI, 18, .inl (fun _ => 0))), (q46, .inl (cI, 18, .inl (fun _ => 0))), (q47, .inl (cL, 18, .inr (.inl (fun _ => 0))))]) O dX9_init_132 fo_X9_78 fp_9_10 rfl rfl rfl (Nat.le_of_ble_eq_true rfl) rfl ?_
  exact u_vret O r dX9_init_135 ⟨q1, q2, q3, q4, q5, q6, q7, q8, q9, q10, q11, q12, q13, q14, q15, q16, q17, q18, q19, q20, q21, q22, q23, q24, q25, q26, q27, q28, q29, q30, q31, q32, q33, q34, q35, q36, q37, q38, q39, q40, q41, q42, q43, q44, q45, q46, q47, rfl⟩
theorem dX10_init_0 : decode cX10_init 0 = .ok (.aload_n 0, 1) := by decide +kernel
theorem dX10_init_1 : decode cX10_init 1 = .ok (.invokespecial 1, 3) := by decide +kernel
theorem dX10_init_4 : decode cX10_init 4 = .ok (.aload_n 0, 1) := by decide +kernel
theorem dX10_init_5 : decode cX10_init 5 = .ok (.bipush 52, 2) := by decide +kernel
theorem dX10_init_7 : decode cX10_init 7 = .ok (.newarray .int, 2) := by decide +kernel
theorem dX10_init_9 : decode cX10_init 9 = .ok (.putfield 7, 3) := by decide +kernel
theorem dX10_init_12 : decode cX10_init 12 = .ok (.aload_n 0, 1) := by decide +kernel
theorem dX10_init_13 : decode cX10_init 13 = .ok (.bipush 120, 2) := by decide +kernel
theorem dX10_init_15 : decode cX10_init 15 = .ok (.newarray .int, 2) := by decide +kernel
theorem dX10_init_17 : decode cX10_init 17 = .ok (.putfield 13, 3) := by decide +kernel
theorem dX10_init_20 : decode cX10_init 20 = .ok (.aload_n 0, 1) := by decide +kernel
theorem dX10_init_21 : decode cX10_init 21 = .ok (.bipush 10, 2) := by decide +kernel
theorem dX10_init_23 : decode cX10_init 23 = .ok (.newarray .int, 2) := by decide +kernel
theorem dX10_init_25 : decode cX10_init 25 = .ok (.putfield 16, 3) := by decide +kernel
theorem dX10_init_28 : decode cX10_init 28 = .ok (.aload_n 0, 1) := by decide +kernel
theorem dX10_init_29 : decode cX10_init 29 = .ok (.bipush 10, 2) := by decide +kernel
theorem dX10_init_31 : decode cX10_init 31 = .ok (.newarray .int, 2) := by decide +kernel
theorem dX10_init_33 : decode cX10_init 33 = .ok (.putfield 19, 3) := by decide +kernel
theorem dX10_init_36 : decode cX10_init 36 = .ok (.aload_n 0, 1) := by decide +kernel
theorem dX10_init_37 : decode cX10_init 37 = .ok (.bipush 10, 2) := by decide +kernel
theorem dX10_init_39 : decode cX10_init 39 = .ok (.newarray .int, 2) := by decide +kernel
theorem dX10_init_41 : decode cX10_init 41 = .ok (.putfield 22, 3) := by decide +kernel
theorem dX10_init_44 : decode cX10_init 44 = .ok (.aload_n 0, 1) := by decide +kernel
theorem dX10_init_45 : decode cX10_init 45 = .ok (.bipush 10, 2) := by decide +kernel
theorem dX10_init_47 : decode cX10_init 47 = .ok (.newarray .int, 2) := by decide +kernel
theorem dX10_init_49 : decode cX10_init 49 = .ok (.putfield 25, 3) := by decide +kernel
theorem dX10_init_52 : decode cX10_init 52 = .ok (.aload_n 0, 1) := by decide +kernel
theorem dX10_init_53 : decode cX10_init 53 = .ok (.bipush 10, 2) := by decide +kernel
theorem dX10_init_55 : decode cX10_init 55 = .ok (.newarray .int, 2) := by decide +kernel
theorem dX10_init_57 : decode cX10_init 57 = .ok (.putfield 28, 3) := by decide +kernel
theorem dX10_init_60 : decode cX10_init 60 = .ok (.aload_n 0, 1) := by decide +kernel
theorem dX10_init_61 : decode cX10_init 61 = .ok (.bipush 10, 2) := by decide +kernel
theorem dX10_init_63 : decode cX10_init 63 = .ok (.newarray .int, 2) := by decide +kernel
theorem dX10_init_65 : decode cX10_init 65 = .ok (.putfield 31, 3) := by decide +kernel
theorem dX10_init_68 : decode cX10_init 68 = .ok (.aload_n 0, 1) := by decide +kernel
theorem dX10_init_69 : decode cX10_init 69 = .ok (.bipush 120, 2) := by decide +kernel
theorem dX10_init_71 : decode cX10_init 71 = .ok (.newarray .int, 2) := by decide +kernel
theorem dX10_init_73 : decode cX10_init 73 = .ok (.putfield 34, 3) := by decide +kernel
theorem dX10_init_76 : decode cX10_init 76 = .ok (.aload_n 0, 1) := by decide +kernel
theorem dX10_init_77 : decode cX10_init 77 = .ok (.bipush 8, 2) := by decide +kernel
theorem dX10_init_79 : decode cX10_init 79 = .ok (.newarray .int, 2) := by decide +kernel
theorem dX10_init_81 : decode cX10_init 81 = .ok (.putfield 37, 3) := by decide +kernel
theorem dX10_init_84 : decode cX10_init 84 = .ok (.aload_n 0, 1) := by decide +kernel
theorem dX10_init_85 : decode cX10_init 85 = .ok (.bipush 8, 2) := by decide +kernel
theorem dX10_init_87 : decode cX10_init 87 = .ok (.newarray .int, 2) := by decide +kernel
theorem dX10_init_89 : decode cX10_init 89 = .ok (.putfield 40, 3) := by decide +kernel
theorem dX10_init_92 : decode cX10_init 92 = .ok (.aload_n 0, 1) := by decide +kernel
theorem dX10_init_93 : decode cX10_init 93 = .ok (.bipush 32, 2) := by decide +kernel
theorem dX10_init_95 : decode cX10_init 95 = .ok (.newarray .int, 2) := by decide +kernel
theorem dX10_init_97 : decode cX10_init 97 = .ok (.putfield 43, 3) := by decide +kernel
theorem dX10_init_100 : decode cX10_init 100 = .ok (.aload_n 0, 1) := by decide +kernel
theorem dX10_init_101 : decode cX10_init 101 = .ok (.bipush 32, 2) := by decide +kernel
theorem dX10_init_103 : decode cX10_init 103 = .ok (.newarray .int, 2) := by decide +kernel
theorem dX10_init_105 : decode cX10_init 105 = .ok (.putfield 46, 3) := by decide +kernel
theorem dX10_init_108 : decode cX10_init 108 = .ok (.aload_n 0, 1) := by decide +kernel
theorem dX10_init_109 : decode cX10_init 109 = .ok (.bipush 32, 2) := by decide +kernel
theorem dX10_init_111 : decode cX10_init 111 = .ok (.newarray .int, 2) := by decide +kernel
theorem dX10_init_113 : decode cX10_init 113 = .ok (.putfield 49, 3) := by decide +kernel
theorem dX10_init_116 : decode cX10_init 116 = .ok (.aload_n 0, 1) := by decide +kernel
theorem dX10_init_117 : decode cX10_init 117 = .ok (.bipush 32, 2) := by decide +kernel
theorem dX10_init_119 : decode cX10_init 119 = .ok (.newarray .int, 2) := by decide +kernel
theorem dX10_init_121 : decode cX10_init 121 = .ok (.putfield 52, 3) := by decide +kernel
theorem dX10_init_124 : decode cX10_init 124 = .ok (.aload_n 0, 1) := by decide +kernel
theorem dX10_init_125 : decode cX10_init 125 = .ok (.bipush 32, 2) := by decide +kernel
theorem dX10_init_127 : decode cX10_init 127 = .ok (.newarray .int, 2) := by decide +kernel
theorem dX10_init_129 : decode cX10_init 129 = .ok (.putfield 55, 3) := by decide +kernel
theorem dX10_init_132 : decode cX10_init 132 = .ok (.aload_n 0, 1) := by decide +kernel
theorem dX10_init_133 : decode cX10_init 133 = .ok (.bipush 10, 2) := by decide +kernel
theorem dX10_init_135 : decode cX10_init 135 = .ok (.newarray .int, 2) := by decide +kernel
theorem dX10_init_137 : decode cX10_init 137 = .ok (.putfield 58, 3) := by decide +kernel
theorem dX10_init_140 : decode cX10_init 140 = .ok (.aload_n 0, 1) := by decide +kernel
theorem dX10_init_141 : decode cX10_init 141 = .ok (.bipush 10, 2) := by decide +kernel
theorem dX10_init_143 : decode cX10_init 143 = .ok (.newarray .int, 2) := by decide +kernel
theorem dX10_init_145 : decode cX10_init 145 = .ok (.putfield 61, 3) := by decide +kernel
theorem dX10_init_148 : decode cX10_init 148 = .ok (.aload_n 0, 1) := by decide +kernel
theorem dX10_init_149 : decode cX10_init 149 = .ok (.bipush 10, 2) := by decide +kernel
theorem dX10_init_151 : decode cX10_init 151 = .ok (.newarray .int, 2) := by decide +kernel
theorem dX10_init_153 : decode cX10_init 153 = .ok (.putfield 64, 3) := by decide +kernel
theorem dX10_init_156 : decode cX10_init 156 = .ok (.aload_n 0, 1) := by decide +kernel
theorem dX10_init_157 : decode cX10_init 157 = .ok (.iconst (-1), 1) := by decide +kernel
theorem dX10_init_158 : decode cX10_init 158 = .ok (.putfield 67, 3) := by decide +kernel
theorem dX10_init_161 : decode cX10_init 161 = .ok (.aload_n 0, 1) := by decide +kernel
theorem dX10_init_162 : decode cX10_init 162 = .ok (.iconst 4, 1) := by decide +kernel
theorem dX10_init_163 : decode cX10_init 163 = .ok (.newarray .int, 2) := by decide +kernel
theorem dX10_init_165 : decode cX10_init 165 = .ok (.putfield 71, 3) := by decide +kernel
theorem dX10_init_168 : decode cX10_init 168 = .ok (.aload_n 0, 1) := by decide +kernel
theorem dX10_init_169 : decode cX10_init 169 = .ok (.iconst 4, 1) := by decide +kernel
theorem dX10_init_170 : decode cX10_init 170 = .ok (.newarray .int, 2) := by decide +kernel
theorem dX10_init_172 : decode cX10_init 172 = .ok (.putfield 74, 3) := by decide +kernel
theorem dX10_init_175 : decode cX10_init 175 = .ok (.aload_n 0, 1) := by decide +kernel
theorem dX10_init_176 : decode cX10_init 176 = .ok (.iconst 4, 1) := by decide +kernel
theorem dX10_init_177 : decode cX10_init 177 = .ok (.newarray .int, 2) := by decide +kernel
theorem dX10_init_179 : decode cX10_init 179 = .ok (.putfield 77, 3) := by decide +kernel
theorem dX10_init_182 : decode cX10_init 182 = .ok (.aload_n 0, 1) := by decide +kernel
theorem dX10_init_183 : decode cX10_init 183 = .ok (.bipush 10, 2) := by decide +kernel
theorem dX10_init_185 : decode cX10_init 185 = .ok (.newarray .int, 2) := by decide +kernel
theorem dX10_init_187 : decode cX10_init 187 = .ok (.putfield 80, 3) := by decide +kernel
theorem dX10_init_190 : decode cX10_init 190 = .ok (.aload_n 0, 1) := by decide +kernel
theorem dX10_init_191 : decode cX10_init 191 = .ok (.bipush 20, 2) := by decide +kernel
theorem dX10_init_193 : decode cX10_init 193 = .ok (.newarray .int, 2) := by decide +kernel
theorem dX10_init_195 : decode cX10_init 195 = .ok (.putfield 83, 3) := by decide +kernel
theorem dX10_init_198 : decode cX10_init 198 = .ok (.aload_n 0, 1) := by decide +kernel
theorem dX10_init_199 : decode cX10_init 199 = .ok (.bipush 20, 2) := by decide +kernel
theorem dX10_init_201 : decode cX10_init 201 = .ok (.newarray .int, 2) := by decide +kernel
theorem dX10_init_203 : decode cX10_init 203 = .ok (.putfield 86, 3) := by decide +kernel
theorem dX10_init_206 : decode cX10_init 206 = .ok (.aload_n 0, 1) := by decide +kernel
theorem dX10_init_207 : decode cX10_init 207 = .ok (.bipush 8, 2) := by decide +kernel
theorem dX10_init_209 : decode cX10_init 209 = .ok (.newarray .int, 2) := by decide +kernel
theorem dX10_init_211 : decode cX10_init 211 = .ok (.putfield 89, 3) := by decide +kernel
theorem dX10_init_214 : decode cX10_init 214 = .ok (.aload_n 0, 1) := by decide +kernel
theorem dX10_init_215 : decode cX10_init 215 = .ok (.bipush 20, 2) := by decide +kernel
theorem dX10_init_217 : decode cX10_init 217 = .ok (.newarray .int, 2) := by decide +kernel
theorem dX10_init_219 : decode cX10_init 219 = .ok (.putfield 92, 3) := by decide +kernel
theorem dX10_init_222 : decode cX10_init 222 = .ok (.aload_n 0, 1) := by decide +kernel
theorem dX10_init_223 : decode cX10_init 223 = .ok (.sipush 200, 3) := by decide +kernel
theorem dX10_init_226 : decode cX10_init 226 = .ok (.newarray .long, 2) := by decide +kernel
theorem dX10_init_228 : decode cX10_init 228 = .ok (.putfield 95, 3) := by decide +kernel
theorem dX10_init_231 : decode cX10_init 231 = .ok (.aload_n 0, 1) := by decide +kernel
theorem dX10_init_232 : decode cX10_init 232 = .ok (.bipush 8, 2) := by decide +kernel
theorem dX10_init_234 : decode cX10_init 234 = .ok (.newarray .int, 2) := by decide +kernel
theorem dX10_init_236 : decode cX10_init 236 = .ok (.putfield 99, 3) := by decide +kernel
theorem dX10_init_239 : decode cX10_init 239 = .ok (.aload_n 0, 1) := by decide +kernel
theorem dX10_init_240 : decode cX10_init 240 = .ok (.iconst 4, 1) := by decide +kernel
theorem dX10_init_241 : decode cX10_init 241 = .ok (.newarray .int, 2) := by decide +kernel
theorem dX10_init_243 : decode cX10_init 243 = .ok (.putfield 102, 3) := by decide +kernel
theorem dX10_init_246 : decode cX10_init 246 = .ok (.aload_n 0, 1) := by decide +kernel
theorem dX10_init_247 : decode cX10_init 247 = .ok (.bipush 40, 2) := by decide +kernel
theorem dX10_init_249 : decode cX10_init 249 = .ok (.newarray .int, 2) := by decide +kernel
theorem dX10_init_251 : decode cX10_init 251 = .ok (.putfield 105, 3) := by decide +kernel
theorem dX10_init_254 : decode cX10_init 254 = .ok (.iconst 0, 1) := by decide +kernel
theorem dX10_init_255 : decode cX10_init 255 = .ok (.istore_n 1, 1) := by decide +kernel
theorem dX10_init_256 : decode cX10_init 256 = .ok (.iload_n 1, 1) := by decide +kernel
theorem dX10_init_257 : decode cX10_init 257 = .ok (.bipush 52, 2) := by decide +kernel
theorem dX10_init_259 : decode cX10_init 259 = .ok (.if_icmp .ge 16, 3) := by decide +kernel
theorem dX10_init_262 : decode cX10_init 262 = .ok (.aload_n 0, 1) := by decide +kernel
theorem dX10_init_263 : decode cX10_init 263 = .ok (.getfield 7, 3) := by decide +kernel
theorem dX10_init_266 : decode cX10_init 266 = .ok (.iload_n 1, 1) := by decide +kernel
theorem dX10_init_267 : decode cX10_init 267 = .ok (.iconst 5, 1) := by decide +kernel
theorem dX10_init_268 : decode cX10_init 268 = .ok (.iastore, 1) := by decide +kernel
theorem dX10_init_269 : decode cX10_init 269 = .ok (.iinc 1 1, 3) := by decide +kernel
theorem dX10_init_272 : decode cX10_init 272 = .ok (.goto (-16), 3) := by decide +kernel
theorem dX10_init_275 : decode cX10_init 275 = .ok (.iconst 0, 1) := by decide +kernel
theorem dX10_init_276 : decode cX10_init 276 = .ok (.istore_n 1, 1) := by decide +kernel
theorem dX10_init_277 : decode cX10_init 277 = .ok (.iload_n 1, 1) := by decide +kernel
theorem dX10_init_278 : decode cX10_init 278 = .ok (.bipush 40, 2) := by decide +kernel
theorem dX10_init_280 : decode cX10_init 280 = .ok (.if_icmp .ge 16, 3) := by decide +kernel
theorem dX10_init_283 : decode cX10_init 283 = .ok (.aload_n 0, 1) := by decide +kernel
theorem dX10_init_284 : decode cX10_init 284 = .ok (.getfield 105, 3) := by decide +kernel
theorem dX10_init_287 : decode cX10_init 287 = .ok (.iload_n 1, 1) := by decide +kernel
theorem dX10_init_288 : decode cX10_init 288 = .ok (.iconst (-1), 1) := by decide +kernel
theorem dX10_init_289 : decode cX10_init 289 = .ok (.iastore, 1) := by decide +kernel
theorem dX10_init_290 : decode cX10_init 290 = .ok (.iinc 1 1, 3) := by decide +kernel
theorem dX10_init_293 : decode cX10_init 293 = .ok (.goto (-16), 3) := by decide +kernel
theorem dX10_init_296 : decode cX10_init 296 = .ok (.return_, 1) := by decide +kernel
set_option maxHeartbeats 4000000 in
set_option maxRecDepth 100000 in
theorem cI_X10_init {Γ : Cxt} {cI cL : ClassId} (eI : Γ.2.2.1.2.1 = cI) (eL : Γ.2.2.1.2.2.1 = cL) (h0 : Nat) (sz : Nat) : MC Γ yX10_init cX10_init 2 { frames := 1, cells := 31, slots := 900, locals := 20 } [.ref h0] [(h0, .inr (10, [.null, .int 0, .null, .null, .null, .null, .null, .null, .null, .int 0, .int 0, .null, .int 0, .int 0, .null, .null, .int 0, .null, .null, .null, .null, .null, .int 0, .null, .int 0, .null, .null, .int 0, .int 0, .int 0, .int 0, .int 0, .int 0, .int 0, .null, .null, .null, .int 0, .int 0, .int 0, .null, .int 0, .null, .int 0, .null, .null, .int 0, .int 0, .long 0, .null, .null, .int 0, .int 0, .int 0, .int 0, .int 0, .null, .null, .null]))] sz 31 900 (fun w => ∃ (q1 q2 q3 q4 q5 q6 q7 q8 q9 q10 q11 q12 q13 q14 q15 q16 q17 q18 q19 q20 q21 q22 q23 q24 q25 q26 q27 q28 q29 q30 q31 : Nat), w = [(h0, .inr (10, [.ref q1, .int 0, .ref q2, .ref q3, .ref q4, .ref q5, .ref q6, .ref q7, .ref q8, .int 0, .int 0, .ref q9, .int 0, .int 0, .ref q10, .ref q11, .int 0, .ref q12, .ref q13, .ref q14, .ref q15, .ref q16, .int 0, .ref q17, .int 0, .ref q18, .ref q19, .int 0, .int 0, .int 0, .int 0, .int (-1), .int 0, .int 0, .ref q20, .ref q21, .ref q22, .int 0, .int 0, .int 0, .ref q23, .int 0, .ref q24, .int 0, .ref q25, .ref q26, .int 0, .int 0, .long 0, .ref q27, .ref q28, .int 0, .int 0, .int 0, .int 0, .int 0, .ref q29, .ref q30, .ref q31])), (q1, .inl (cI, 52, .inl (fillN 52 5 (fun _ => 0)))), (q2, .inl (cI, 120, .inl (fun _ => 0))), (q3, .inl (cI, 10, .inl (fun _ => 0))), (q4, .inl (cI, 10, .inl (fun _ => 0))), (q5, .inl (cI, 10, .inl (fun _ => 0))), (q6, .inl (cI, 10, .inl (fun _ => 0))), (q7, .inl (cI, 10, .inl (fun _ => 0))), (q8, .inl (cI, 10, .inl (fun _ => 0))), (q9, .inl (cI, 120, .inl (fun _ => 0))), (q10, .inl (cI, 8, .inl (fun _ => 0))), (q11, .inl (cI, 8, .inl (fun _ => 0))), (q12, .inl (cI, 32, .inl (fun _ => 0))), (q13, .inl (cI, 32, .inl (fun _ => 0))), (q14, .inl (cI, 32, .inl (fun _ => 0))), (q15, .inl (cI, 32, .inl (fun _ => 0))), (q16, .inl (cI, 32, .inl (fun _ => 0))), (q17, .inl (cI, 10, .inl (fun _ => 0))), (q18, .inl (cI, 10, .inl (fun _ => 0))), (q19, .inl (cI, 10, .inl (fun _ => 0))), (q20, .inl (cI, 4, .inl (fun _ => 0))), (q21, .inl (cI, 4, .inl (fun _ => 0))), (q22, .inl (cI, 4, .inl (fun _ => 0))), (q23, .inl (cI, 10, .inl (fun _ => 0))), (q24, .inl (cI, 20, .inl (fun _ => 0))), (q25, .inl (cI, 20, .inl (fun _ => 0))), (q26, .inl (cI, 8, .inl (fun _ => 0))), (q27, .inl (cI, 20, .inl (fun _ => 0))), (q28, .inl (cL, 200, .inr (.inl (fun _ => 0)))), (q29, .inl (cI, 8, .inl (fun _ => 0))), (q30, .inl (cI, 4, .inl (fun _ => 0))), (q31, .inl (cI, 40, .inl (fillN 40 (-1) (fun _ => 0))))]) := by
  refine mc_of (by decide) (Nat.le_of_ble_eq_true rfl) (fun Γ e1 e2 hI0 O r => ?_)
  have hI := hI0 rfl
  have eI := e1.trans eI
  have eL := e2.trans eL
  refine u_loc (lv' := [(0, .ref h0)]) [0] rfl ?_
  refine u_aload_n O dX10_init_0 rfl 0 rfl ?_
  refine u_obj O dX10_init_1 ol_X10_1 (by decide) (Nat.le_of_ble_eq_true rfl) ?_
  refine u_aload_n O dX10_init_4 rfl 0 rfl ?_
  refine u_bipush O dX10_init_5 kb_52 ?_
  refine u_newI (N := 52) O dX10_init_7 (by decide) (by decide) (by decide) (by decide) (fun q1 cz ez => ?_)
  have ez := eI.symm.trans ez
  subst ez
  refine u_eq (ws' := [(h0, .inr (10, [.null, .int 0, .null, .null, .null, .null, .null, .null, .null, .int 0, .int 0, .null, .int 0, .int 0, .null, .null, .int 0, .null, .null, .null, .null, .null, .int 0, .null, .int 0, .null, .null, .int 0, .int 0, .int 0, .int 0, .int 0, .int 0, .int 0, .null, .null, .null, .int 0, .int 0, .int 0, .null, .int 0, .null, .int 0, .null, .null, .int 0, .int 0, .long 0, .null, .null, .int 0, .int 0, .int 0, .int 0, .int 0, .null, .null, .null])), (q1, .inl (cI, 52, .inl (fun _ => 0)))]) rfl ?_
  refine u_putF (q0 := 0) (ws' := [(h0, .inr (10, [.ref q1, .int 0, .null, .null, .null, .null, .null, .null, .null, .int 0, .int 0, .null, .int 0, .int 0, .null, .null, .int 0, .null, .null, .null, .null, .null, .int 0, .null, .int 0, .null, .null, .int 0, .int 0, .int 0, .int 0, .int 0, .int 0, .int 0, .null, .null, .null, .int 0, .int 0, .int 0, .null, .int 0, .null, .int 0, .null, .null, .int 0, .int 0, .long 0, .null, .null, .int 0, .int 0, .int 0, .int 0, .int 0, .null, .null, .null])), (q1, .inl (cI, 52, .inl (fun _ => 0)))]) O hI dX10_init_9 fo_X10_7 ff_10_0 rfl rfl rfl rfl (Nat.le_of_ble_eq_true rfl) rfl ?_
  refine u_aload_n O dX10_init_12 rfl 0 rfl ?_
  refine u_bipush O dX10_init_13 kb_120 ?_
  refine u_newI (N := 120) O dX10_init_15 (by decide) (by decide) (by decide) (by decide) (fun q2 cz ez => ?_)
  have ez := eI.symm.trans ez
  subst ez
  refine u_eq (ws' := [(h0, .inr (10, [.ref q1, .int 0, .null, .null, .null, .null, .null, .null, .null, .int 0, .int 0, .null, .int 0, .int 0, .null, .null, .int 0, .null, .null, .null, .null, .null, .int 0, .null, .int 0, .null, .null, .int 0, .int 0, .int 0, .int 0, .int 0, .int 0, .int 0, .null, .null, .null, .int 0, .int 0, .int 0, .null, .int 0, .null, .int 0, .null, .null, .int 0, .int 0, .long 0, .null, .null, .int 0, .int 0, .int 0, .int 0, .int 0, .null, .null, .null])), (q1, .inl (cI, 52, .inl (fun _ => 0))), (q2, .inl (cI, 120, .inl (fun _ => 0)))]) rfl ?_
  refine u_putF (q0 := 0) (ws' := [(h0, .inr (10, [.ref q1, .int 0, .ref q2, .null, .null, .null, .null, .null, .null, .int 0, .int 0, .null, .int 0, .int 0, .null, .null, .int 0, .null, .null, .null, .null, .null, .int 0, .null, .int 0, .null, .null, .int 0, .int 0, .int 0, .int 0, .int 0, .int 0, .int 0, .null, .null, .null, .int 0, .int 0, .int 0, .null, .int 0, .null, .int 0, .null, .null, .int 0, .int 0, .long 0, .null, .null, .int 0, .int 0, .int 0, .int 0, .int 0, .null, .null, .null])), (q1, .inl (cI, 52, .inl (fun _ => 0))), (q2, .inl (cI, 120, .inl (fun _ => 0)))]) O hI dX10_init_17 fo_X10_13 ff_10_2 rfl rfl rfl rfl (Nat.le_of_ble_eq_true rfl) rfl ?_
  refine u_aload_n O dX10_init_20 rfl 0 rfl ?_
  refine u_bipush O dX10_init_21 kb_10 ?_
  refine u_newI (N := 10) O dX10_init_23 (by decide) (by decide) (by decide) (by decide) (fun q3 cz ez => ?_)
  have ez := eI.symm.trans ez
  subst ez
  refine u_eq (ws' := [(h0, .inr (10, [.ref q1, .int 0, .ref q2, .null, .null, .null, .null, .null, .null, .int 0, .int 0, .null, .int 0, .int 0, .null, .null, .int 0, .null, .null, .null, .null, .null, .int 0, .null, .int 0, .null, .null, .int 0, .int 0, .int 0, .int 0, .int 0, .int 0, .int 0, .null, .null, .null, .int 0, .int 0, .int 0, .null, .int 0, .null, .int 0, .null, .null, .int 0, .int 0, .long 0, .null, .null, .int 0, .int 0, .int 0, .int 0, .int 0, .null, .null, .null])), (q1, .inl (cI, 52, .inl (fun _ => 0))), (q2, .inl (cI, 120, .inl (fun _ => 0))), (q3, .inl (cI, 10, .inl (fun _ => 0)))]) rfl ?_
  refine u_putF (q0 := 0) (ws' := [(h0, .inr (10, [.ref q1, .int 0, .ref q2, .ref q3, .null, .null, .null, .null, .null, .int 0, .int 0, .null, .int 0, .int 0, .null, .null, .int 0, .null, .null, .null, .null, .null, .int 0, .null, .int 0, .null, .null, .int 0, .int 0, .int 0, .int 0, .int 0, .int 0, .int 0, .null, .null, .null, .int 0, .int 0, .int 0, .null, .int 0, .null, .int 0, .null, .null, .int 0, .int 0, .long 0, .null, .null, .int 0, .int 0, .int 0, .int 0, .int 0, .null, .null, .null])), (q1, .inl (cI, 52, .inl (fun _ => 0))), (q2, .inl (cI, 120, .inl (fun _ => 0))), (q3, .inl (cI, 10, .inl (fun _ => 0)))]) O hI dX10_init_25 fo_X10_16 ff_10_3 rfl rfl rfl rfl (Nat.le_of_ble_eq_true rfl) rfl ?_
  refine u_aload_n O dX10_init_28 rfl 0 rfl ?_
  refine u_bipush O dX10_init_29 kb_10 ?_
  refine u_newI (N := 10) O dX10_init_31 (by decide) (by decide) (by decide) (by decide) (fun q4 cz ez => ?_)
  have ez := eI.symm.trans ez
  subst ez
  refine u_eq (ws' := [(h0, .inr (10, [.ref q1, .int 0, .ref q2, .ref q3, .null, .null, .null, .null, .null, .int 0, .int 0, .null, .int 0, .int 0, .null, .null, .int 0, .null, .null, .null, .null, .null, .int 0, .null, .int 0, .null, .null, .int 0, .int 0, .int 0, .int 0, .int 0, .int 0, .int 0, .null, .null, .null, .int 0, .int 0, .int 0, .null, .int 0, .null, .int 0, .null, .null, .int 0, .int 0, .long 0, .null, .null, .int 0, .int 0, .int 0, .int 0, .int 0, .null, .null, .null])), (q1, .inl (cI, 52, .inl (fun _ => 0))), (q2, .inl (cI, 120, .inl (fun _ => 0))), (q3, .inl (cI, 10, .inl (fun _ => 0))), (q4, .inl (cI, 10, .inl (fun _ => 0)))]) rfl ?_
  refine u_putF (q0 := 0) (ws' := [(h0, .inr (10, [.ref q1, .int 0, .ref q2, .ref q3, .ref q4, .null, .null, .null, .null, .int 0, .int 0, .null, .int 0, .int 0, .null, .null, .int 0, .null, .null, .null, .null, .null, .int 0, .null, .int 0, .null, .null, .int 0, .int 0, .int 0, .int 0, .int 0, .int 0, .int 0, .null, .null, .null, .int 0, .int 0, .int 0, .null, .int 0, .null, .int 0, .null, .null, .int 0, .int 0, .long 0, .null, .null, .int 0, .int 0, .int 0, .int 0, .int 0, .null, .null, .null])), (q1, .inl (cI, 52, .inl (fun _ => 0))), (q2, .inl (cI, 120, .inl (fun _ => 0))), (q3, .inl (cI, 10, .inl (fun _ => 0))), (q4, .inl (cI, 10, .inl (fun _ => 0)))]) O hI dX10_init_33 fo_X10_19 ff_10_4 rfl rfl rfl rfl (Nat.le_of_ble_eq_true rfl) rfl ?_
  refine u_aload_n O dX10_init_36 rfl 0 rfl ?_
  refine u_bipush O dX10_init_37 kb_10 ?_
  refine u_newI (N := 10) O dX10_init_39 (by decide) (by decide) (by decide) (by decide) (fun q5 cz ez => ?_)
  have ez := eI.symm.trans ez
  subst ez
  refine u_eq (ws' := [(h0, .inr (10, [.ref q1, .int 0, .ref q2, .ref q3, .ref q4, .null, .null, .null, .null, .int 0, .int 0, .null, .int 0, .int 0, .null, .null, .int 0, .null, .null, .null, .null, .null, .int 0, .null, .int 0, .null, .null, .int 0, .int 0, .int 0, .int 0, .int 0, .int 0, .int 0, .null, .null, .null, .int 0, .int 0, .int 0, .null, .int 0, .null, .int 0, .null, .null, .int 0, .int 0, .long 0, .null, .null, .int 0, .int 0, .int 0, .int 0, .int 0, .null, .null, .null])), (q1, .inl (cI, 52, .inl (fun _ => 0))), (q2, .inl (cI, 120, .inl (fun _ => 0))), (q3, .inl (cI, 10, .inl (fun _ => 0))), (q4, .inl (cI, 10, .inl (fun _ => 0))), (q5, .inl (cI, 10, .inl (fun _ => 0)))]) rfl ?_
  refine u_putF (q0 := 0) (ws' := [(h0, .inr (10, [.ref q1, .int 0, .ref q2, .ref q3, .ref q4, .ref q5, .null, .null, .null, .int 0, .int 0, .null, .int 0, .int 0, .null, .null, .int 0, .null, .null, .null, .null, .null, .int 0, .null, .int 0, .null, .null, .int 0, .int 0, .int 0, .int 0, .int 0, .int 0, .int 0, .null, .null, .null, .int 0, .int 0, .int 0, .null, .int 0, .null, .int 0, .null, .null, .int 0, .int 0, .long 0, .null, .null, .int 0, .int 0, .int 0, .int 0, .int 0, .null, .null, .null])), (q1, .inl (cI, 52, .inl (fun _ => 0))), (q2, .inl (cI, 120, .inl (fun _ => 0))), (q3, .inl (cI, 10, .inl (fun _ => 0))), (q4, .inl (cI, 10, .inl (fun _ => 0))), (q5, .inl (cI, 10, .inl (fun _ => 0)))]) O hI dX10_init_41 fo_X10_22 ff_10_5 rfl rfl rfl rfl (Nat.le_of_ble_eq_true rfl) rfl ?_
  refine u_aload_n O dX10_init_44 rfl 0 rfl ?_
  refine u_bipush O dX10_init_45 kb_10 ?_
  refine u_newI (N := 10) O dX10_init_47 (by decide) (by decide) (by decide) (by decide) (fun q6 cz ez => ?_)
  have ez := eI.symm.trans ez
  subst ez
  refine u_eq (ws' := [(h0, .inr (10, [.ref q1, .int 0, .ref q2, .ref q3, .ref q4, .ref q5, .null, .null, .null, .int 0, .int 0, .null, .int 0, .int 0, .null, .null, .int 0, .null, .null, .null, .null, .null, .int 0, .null, .int 0, .null, .null, .int 0, .int 0, .int 0, .int 0, .int 0, .int 0, .int 0, .null, .null, .null, .int 0, .int 0, .int 0, .null, .int 0, .null, .int 0, .null, .null, .int 0, .int 0, .long 0, .null, .null, .int 0, .int 0, .int 0, .int 0, .int 0, .null, .null, .null])), (q1, .inl (cI, 52, .inl (fun _ => 0))), (q2, .inl (cI, 120, .inl (fun _ => 0))), (q3, .inl (cI, 10, .inl (fun _ => 0))), (q4, .inl (cI, 10, .inl (fun _ => 0))), (q5, .inl (cI, 10, .inl (fun _ => 0))), (q6, .inl (cI, 10, .inl (fun _ => 0)))]) rfl ?_
  refine u_putF (q0 := 0) (ws' := [(h0, .inr (10, [.ref q1, .int 0, .ref q2, .ref q3, .ref q4, .ref q5, .ref q6, .null, .null, .int 0, .int 0, .null, .int 0, .int 0, .null, .null, .int 0, .null, .null, .null, .null, .null, .int 0, .null, .int 0, .null, .null, .int 0, .int 0, .int 0, .int 0, .int 0, .int 0, .int 0, .null, .null, .null, .int 0, .int 0, .int 0, .null, .int 0, .null, .int 0, .null, .null, .int 0, .int 0, .long 0, .null, .null, .int 0, .int 0, .int 0, .int 0, .int 0, .null, .null, .null])), (q1, .inl (cI, 52, .inl (fun _ => 0))), (q2, .inl (cI, 120, .inl (fun _ => 0))), (q3, .inl (cI, 10, .inl (fun _ => 0))), (q4, .inl (cI, 10, .inl (fun _ => 0))), (q5, .inl (cI, 10, .inl (fun _ => 0))), (q6, .inl (cI, 10, .inl (fun _ => 0)))]) O hI dX10_init_49 fo_X10_25 ff_10_6 rfl rfl rfl rfl (Nat.le_of_ble_eq_true rfl) rfl ?_
  refine u_aload_n O dX10_init_52 rfl 0 rfl ?_
  refine u_bipush O dX10_init_53 kb_10 ?_
  refine u_newI (N := 10) O dX10_init_55 (by decide) (by decide) (by decide) (by decide) (fun q7 cz ez => ?_)
  have ez := eI.symm.trans ez
  subst ez
  refine u_eq (ws' := [(h0, .inr (10, [.ref q1, .int 0, .ref q2, .ref q3, .ref q4, .ref q5, .ref q6, .null, .null, .int 0, .int 0, .null, .int 0, .int 0, .null, .null, .int 0, .null, .null, .null, .null, .null, .int 0, .null, .int 0, .null, .null, .int 0, .int 0, .int 0, .int 0, .int 0, .int 0, .int 0, .null, .null, .null, .int 0, .int 0, .int 0, .null, .int 0, .null, .int 0, .null, .null, .int 0, .int 0, .long 0, .null, .null, .int 0, .int 0, .int 0, .int 0, .int 0, .null, .null, .null])), (q1, .inl (cI, 52, .inl (fun _ => 0))), (q2, .inl (cI, 120, .inl (fun _ => 0))), (q3, .inl (cI, 10, .inl (fun _ => 0))), (q4, .inl (cI, 10, .inl (fun _ => 0))), (q5, .inl (cI, 10, .inl (fun _ => 0))), (q6, .inl (cI, 10, .inl (fun _ => 0))), (q7, .inl (cI, 10, .inl (fun _ => 0)))]) rfl ?_
  refine u_putF (q0 := 0) (ws' := [(h0, .inr (10, [.ref q1, .int 0, .ref q2, .ref q3, .ref q4, .ref q5, .ref q6, .ref q7, .null, .int 0, .int 0, .null, .int 0, .int 0, .null, .null, .int 0, .null, .null, .null, .null, .null, .int 0, .null, .int 0, .null, .null, .int 0, .int 0, .int 0, .int 0, .int 0, .int 0, .int 0, .null, .null, .null, .int 0, .int 0, .int 0, .null, .int 0, .null, .int 0, .null, .null, .int 0, .int 0, .long 0, .null, .null, .int 0, .int 0, .int 0, .int 0, .int 0, .null, .null, .null])), (q1, .inl (cI, 52, .inl (fun _ => 0))), (q2, .inl (cI, 120, .inl (fun _ => 0))), (q3, .inl (cI, 10, .inl (fun _ => 0))), (q4, .inl (cI, 10, .inl (fun _ => 0))), (q5, .inl (cI, 10, .inl (fun _ => 0))), (q6, .inl (cI, 10, .inl (fun _ => 0))), (q7, .inl (cI, 10, .inl (fun _ => 0)))]) O hI dX10_init_57 fo_X10_28 ff_10_7 rfl rfl rfl rfl (Nat.le_of_ble_eq_true rfl) rfl ?_
  refine u_aload_n O dX10_init_60 rfl 0 rfl ?_
  refine u_bipush O dX10_init_61 kb_10 ?_
  refine u_newI (N := 10) O dX10_init_63 (by decide) (by decide) (by decide) (by decide) (fun q8 cz ez => ?_)
  have ez := eI.symm.trans ez
  subst ez
  refine u_eq (ws' := [(h0, .inr (10, [.ref q1, .int 0, .ref q2, .ref q3, .ref q4, .ref q5, .ref q6, .ref q7, .null, .int 0, .int 0, .null, .int 0, .int 0, .null, .null, .int 0, .null, .null, .null, .null, .null, .int 0, .null, .int 0, .null, .null, .int 0, .int 0, .int 0, .int 0, .int 0, .int 0, .int 0, .null, .null, .null, .int 0, .int 0, .int 0, .null, .int 0, .null, .int 0, .null, .null, .int 0, .int 0, .long 0, .null, .null, .int 0, .int 0, .int 0, .int 0, .int 0, .null, .null, .null])), (q1, .inl (cI, 52, .inl (fun _ => 0))), (q2, .inl (cI, 120, .inl (fun _ => 0))), (q3, .inl (cI, 10, .inl (fun _ => 0))), (q4, .inl (cI, 10, .inl (fun _ => 0))), (q5, .inl (cI, 10, .inl (fun _ => 0))), (q6, .inl (cI, 10, .inl (fun _ => 0))), (q7, .inl (cI, 10, .inl (fun _ => 0))), (q8, .inl (cI, 10, .inl (fun _ => 0)))]) rfl ?_
  refine u_putF (q0 := 0) (ws' := [(h0, .inr (10, [.ref q1, .int 0, .ref q2, .ref q3, .ref q4, .ref q5, .ref q6, .ref q7, .ref q8, .int 0, .int 0, .null, .int 0, .int 0, .null, .null, .int 0, .null, .null, .null, .null, .null, .int 0, .null, .int 0, .null, .null, .int 0, .int 0, .int 0, .int 0, .int 0, .int 0, .int 0, .null, .null, .null, .int 0, .int 0, .int 0, .null, .int 0, .null, .int 0, .null, .null, .int 0, .int 0, .long 0, .null, .null, .int 0, .int 0, .int 0, .int 0, .int 0, .null, .null, .null])), (q1, .inl (cI, 52, .inl (fun _ => 0))), (q2, .inl (cI, 120, .inl (fun _ => 0))), (q3, .inl (cI, 10, .inl (fun _ => 0))), (q4, .inl (cI, 10, .inl (fun _ => 0))), (q5, .inl (cI, 10, .inl (fun _ => 0))), (q6, .inl (cI, 10, .inl (fun _ => 0))), (q7, .inl (cI, 10, .inl (fun _ => 0))), (q8, .inl (cI, 10, .inl (fun _ => 0)))]) O hI dX10_init_65 fo_X10_31 ff_10_8 rfl rfl rfl rfl (Nat.le_of_ble_eq_true rfl) rfl ?_
  refine u_aload_n O dX10_init_68 rfl 0 rfl ?_
  refine u_bipush O dX10_init_69 kb_120 ?_
  refine u_newI (N := 120) O dX10_init_71 (by decide) (by decide) (by decide) (by decide) (fun q9 cz ez => ?_)
  have ez := eI.symm.trans ez
  subst ez
  refine u_eq (ws' := [(h0, .inr (10, [.ref q1, .int 0, .ref q2, .ref q3, .ref q4, .ref q5, .ref q6, .ref q7, .ref q8, .int 0, .int 0, .null, .int 0, .int 0, .null, .null, .int 0, .null, .null, .null, .null, .null, .int 0, .null, .int 0, .null, .null, .int 0, .int 0, .int 0, .int 0, .int 0, .int 0, .int 0, .null, .null, .null, .int 0, .int 0, .int 0, .null, .int 0, .null, .int 0, .null, .null, .int 0, .int 0, .long 0, .null, .null, .int 0, .int 0, .int 0, .int 0, .int 0, .null, .null, .null])), (q1, .inl (cI, 52, .inl (fun _ => 0))), (q2, .inl (cI, 120, .inl (fun _ => 0))), (q3, .inl (cI, 10, .inl (fun _ => 0))), (q4, .inl (cI, 10, .inl (fun _ => 0))), (q5, .inl (cI, 10, .inl (fun _ => 0))), (q6, .inl (cI, 10, .inl (fun _ => 0))), (q7, .inl (cI, 10, .inl (fun _ => 0))), (q8, .inl (cI, 10, .inl (fun _ => 0))), (q9, .inl (cI, 120, .inl (fun _ => 0)))]) rfl ?_
  refine u_putF (q0 := 0) (ws' := [(h0, .inr (10, [.ref q1, .int 0, .ref q2, .ref q3, .ref q4, .ref q5, .ref q6, .ref q7, .ref q8, .int 0, .int 0, .ref q9, .int 0, .int 0, .null, .null, .int 0, .null, .null, .null, .null, .null, .int 0, .null, .int 0, .null, .null, .int 0, .int 0, .int 0, .int 0, .int 0, .int 0, .int 0, .null, .null, .null, .int 0, .int 0, .int 0, .null, .int 0, .null, .int 0, .null, .null, .int 0, .int 0, .long 0, .null, .null, .int 0, .int 0, .int 0, .int 0, .int 0, .null, .null, .null])), (q1, .inl (cI, 52, .inl (fun _ => 0))), (q2, .inl (cI, 120, .inl (fun _ => 0))), (q3, .inl (cI, 10, .inl (fun _ => 0))), (q4, .inl (cI, 10, .inl (fun _ => 0))), (q5, .inl (cI, 10, .inl (fun _ => 0))), (q6, .inl (cI, 10, .inl (fun _ => 0))), (q7, .inl (cI, 10, .inl (fun _ => 0))), (q8, .inl (cI, 10, .inl (fun _ => 0))), (q9, .inl (cI, 120, .inl (fun _ => 0)))]) O hI dX10_init_73 fo_X10_34 ff_10_11 rfl rfl rfl rfl (Nat.le_of_ble_eq_true rfl) rfl ?_
  refine u_aload_n O dX10_init_76 rfl 0 rfl ?_
  refine u_bipush O dX10_init_77 kb_8 ?_
  refine u_newI (N := 8) O dX10_init_79 (by decide) (by decide) (by decide) (by decide) (fun q10 cz ez => ?_)
  have ez := eI.symm.trans ez
  subst ez
  refine u_eq (ws' := [(h0, .inr (10, [.ref q1, .int 0, .ref q2, .ref q3, .ref q4, .ref q5, .ref q6, .ref q7, .ref q8, .int 0, .int 0, .ref q9, .int 0, .int 0, .null, .null, .int 0, .null, .null, .null, .null, .null, .int 0, .null, .int 0, .null, .null, .int 0, .int 0, .int 0, .int 0, .int 0, .int 0, .int 0, .null, .null, .null, .int 0, .int 0, .int 0, .null, .int 0, .null, .int 0, .null, .null, .int 0, .int 0, .long 0, .null, .null, .int 0, .int 0, .int 0, .int 0, .int 0, .null, .null, .null])), (q1, .inl (cI, 52, .inl (fun _ => 0))), (q2, .inl (cI, 120, .inl (fun _ => 0))), (q3, .inl (cI, 10, .inl (fun _ => 0))), (q4, .inl (cI, 10, .inl (fun _ => 0))), (q5, .inl (cI, 10, .inl (fun _ => 0))), (q6, .inl (cI, 10, .inl (fun _ => 0))), (q7, .inl (cI, 10, .inl (fun _ => 0))), (q8, .inl (cI, 10, .inl (fun _ => 0))), (q9, .inl (cI, 120, .inl (fun _ => 0))), (q10, .inl (cI, 8, .inl (fun _ => 0)))]) rfl ?_
  refine u_putF (q0 := 0) (ws' := [(h0, .inr (10, [.ref q1, .int 0, .ref q2, .ref q3, .ref q4, .ref q5, .ref q6, .ref q7, .ref q8, .int 0, .int 0, .ref q9, .int 0, .int 0, .ref q10, .null, .int 0, .null, .null, .null, .null, .null, .int 0, .null, .int 0, .null, .null, .int 0, .int 0, .int 0, .int 0, .int 0, .int 0, .int 0, .null, .null, .null, .int 0, .int 0, .int 0, .null, .int 0, .null, .int 0, .null, .null, .int 0, .int 0, .long 0, .null, .null, .int 0, .int 0, .int 0, .int 0, .int 0, .null, .null, .null])), (q1, .inl (cI, 52, .inl (fun _ => 0))), (q2, .inl (cI, 120, .inl (fun _ => 0))), (q3, .inl (cI, 10, .inl (fun _ => 0))), (q4, .inl (cI, 10, .inl (fun _ => 0))), (q5, .inl (cI, 10, .inl (fun _ => 0))), (q6, .inl (cI, 10, .inl (fun _ => 0))), (q7, .inl (cI, 10, .inl (fun _ => 0))), (q8, .inl (cI, 10, .inl (fun _ => 0))), (q9, .inl (cI, 120, .inl (fun _ => 0))), (q10, .inl (cI, 8, .inl (fun _ => 0)))]) O hI dX10_init_81 fo_X10_37 ff_10_14 rfl rfl rfl rfl (Nat.le_of_ble_eq_true rfl) rfl ?_
  refine u_aload_n O dX10_init_84 rfl 0 rfl ?_
  refine u_bipush O dX10_init_85 kb_8 ?_
  refine u_newI (N := 8) O dX10_init_87 (by decide) (by decide) (by decide) (by decide) (fun q11 cz ez => ?_)
  have ez := eI.symm.trans ez
  subst ez
  refine u_eq (ws' := [(h0, .inr (10, [.ref q1, .int 0, .ref q2, .ref q3, .ref q4, .ref q5, .ref q6, .ref q7, .ref q8, .int 0, .int 0, .ref q9, .int 0, .int 0, .ref q10, .null, .int 0, .null, .null, .null, .null, .null, .int 0, .null, .int 0, .null, .null, .int 0, .int 0, .int 0, .int 0, .int 0, .int 0, .int 0, .null, .null, .null, .int 0, .int 0, .int 0, .null, .int 0, .null, .int 0, .null, .null, .int 0, .int 0, .long 0, .null, .null, .int 0, .int 0, .int 0, .int 0, .int 0, .null, .null, .null])), (q1, .inl (cI, 52, .inl (fun _ => 0))), (q2, .inl (cI, 120, .inl (fun _ => 0))), (q3, .inl (cI, 10, .inl (fun _ => 0))), (q4, .inl (cI, 10, .inl (fun _ => 0))), (q5, .inl (cI, 10, .inl (fun _ => 0))), (q6, .inl (cI, 10, .inl (fun _ => 0))), (q7, .inl (cI, 10, .inl (fun _ => 0))), (q8, .inl (cI, 10, .inl (fun _ => 0))), (q9, .inl (cI, 120, .inl (fun _ => 0))), (q10, .inl (cI, 8, .inl (fun _ => 0))), (q11, .inl (cI, 8, .inl (fun _ => 0)))]) rfl ?_
  refine u_putF (q0 := 0) (ws' := [(h0, .inr (10, [.ref q1, .int 0, .ref q2, .ref q3, .ref q4, .ref q5, .ref q6, .ref q7, .ref q8, .int 0, .int 0, .ref q9, .int 0, .int 0, .ref q10, .ref q11, .int 0, .null, .null, .null, .null, .null, .int 0, .null, .int 0, .null, .null, .int 0, .int 0, .int 0, .int 0, .int 0, .int 0, .int 0, .null, .null, .null, .int 0, .int 0, .int 0, .null, .int 0, .null, .int 0, .null, .null, .int 0, .int 0, .long 0, .null, .null, .int 0, .int 0, .int 0, .int 0, .int 0, .null, .null, .null])), (q1, .inl (cI, 52, .inl (fun _ => 0))), (q2, .inl (cI, 120, .inl (fun _ => 0))), (q3, .inl (cI, 10, .inl (fun _ => 0))), (q4, .inl (cI, 10, .inl (fun _ => 0))), (q5, .inl (cI, 10, .inl (fun _ => 0))), (q6, .inl (cI, 10, .inl (fun _ => 0))), (q7, .inl (cI, 10, .inl (fun _ => 0))), (q8, .inl (cI, 10, .inl (fun _ => 0))), (q9, .inl (cI, 120, .inl (fun _ => 0))), (q10, .inl (cI, 8, .inl (fun _ => 0))), (q11, .inl (cI, 8, .inl (fun _ => 0)))]) O hI dX10_init_89 fo_X10_40 ff_10_15 rfl rfl rfl rfl (Nat.le_of_ble_eq_true rfl) rfl ?_
  refine u_aload_n O dX10_init_92 rfl 0 rfl ?_
  refine u_bipush O dX10_init_93 kb_32 ?_
  refine u_newI (N := 32) O dX10_init_95 (by decide) (by decide) (by decide) (by decide) (fun q12 cz ez => ?_)
  have ez := eI.symm.trans ez
  subst ez
  refine u_eq (ws' := [(h0, .inr (10, [.ref q1, .int 0, .ref q2, .ref q3, .ref q4, .ref q5, .ref q6, .ref q7, .ref q8, .int 0, .int 0, .ref q9, .int 0, .int 0, .ref q10, .ref q11, .int 0, .null, .null, .null, .null, .null, .int 0, .null, .int 0, .null, .null, .int 0, .int 0, .int 0, .int 0, .int 0, .int 0, .int 0, .null, .null, .null, .int 0, .int 0, .int 0, .null, .int 0, .null, .int 0, .null, .null, .int 0, .int 0, .long 0, .null, .null, .int 0, .int 0, .int 0, .int 0, .int 0, .null, .null, .null])), (q1, .inl (cI, 52, .inl (fun _ => 0))), (q2, .inl (cI, 120, .inl (fun _ => 0))), (q3, .inl (cI, 10, .inl (fun _ => 0))), (q4, .inl (cI, 10, .inl (fun _ => 0))), (q5, .inl (cI, 10, .inl (fun _ => 0))), (q6, .inl (cI, 10, .inl (fun _ => 0))), (q7, .inl (cI, 10, .inl (fun _ => 0))), (q8, .inl (cI, 10, .inl (fun _ => 0))), (q9, .inl (cI, 120, .inl (fun _ => 0))), (q10, .inl (cI, 8, .inl (fun _ => 0))), (q11, .inl (cI, 8, .inl (fun _ => 0))), (q12, .inl (cI, 32, .inl (fun _ => 0)))]) rfl ?_
  refine u_putF (q0 := 0) (ws' := [(h0, .inr (10, [.ref q1, .int 0, .ref q2, .ref q3, .ref q4, .ref q5, .ref q6, .ref q7, .ref q8, .int 0, .int 0, .ref q9, .int 0, .int 0, .ref q10, .ref q11, .int 0, .ref q12, .null, .null, .null, .null, .int 0, .null, .int 0, .null, .null, .int 0, .int 0, .int 0, .int 0, .int 0, .int 0, .int 0, .null, .null, .null, .int 0, .int 0, .int 0, .null, .int 0, .null, .int 0, .null, .null, .int 0, .int 0, .long 0, .null, .null, .int 0, .int 0, .int 0, .int 0, .int 0, .null, .null, .null])), (q1, .inl (cI, 52, .inl (fun _ => 0))), (q2, .inl (cI, 120, .inl (fun _ => 0))), (q3, .inl (cI, 10, .inl (fun _ => 0))), (q4, .inl (cI, 10, .inl (fun _ => 0))), (q5, .inl (cI, 10, .inl (fun _ => 0))), (q6, .inl (cI, 10, .inl (fun _ => 0))), (q7, .inl (cI, 10, .inl (fun _ => 0))), (q8, .inl (cI, 10, .inl (fun _ => 0))), (q9, .inl (cI, 120, .inl (fun _ => 0))), (q10, .inl (cI, 8, .inl (fun _ => 0))), (q11, .inl (cI, 8, .inl (fun _ => 0))), (q12, .inl (cI, 32, .inl (fun _ => 0)))]) O hI dX10_init_97 fo_X10_43 ff_10_17 rfl rfl rfl rfl (Nat.le_of_ble_eq_true rfl) rfl ?_
  refine u_aload_n O dX10_init_100 rfl 0 rfl ?_
  refine u_bipush O dX10_init_101 kb_32 ?_
  refine u_newI (N := 32) O dX10_init_103 (by decide) (by decide) (by decide) (by decide) (fun q13 cz ez => ?_)
  have ez := eI.symm.trans ez
  subst ez
  refine u_eq (ws' := [(h0, .inr (10, [.ref q1, .int 0, .ref q2, .ref q3, .ref q4, .ref q5, .ref q6, .ref q7, .ref q8, .int 0, .int 0, .ref q9, .int 0, .int 0, .ref q10, .ref q11, .int 0, .ref q12, .null, .null, .null, .null, .int 0, .null, .int 0, .null, .null, .int 0, .int 0, .int 0, .int 0, .int 0, .int 0, .int 0, .null, .null, .null, .int 0, .int 0, .int 0, .null, .int 0, .null, .int 0, .null, .null, .int 0, .int 0, .long 0, .null, .null, .int 0, .int 0, .int 0, .int 0, .int 0, .null, .null, .null])), (q1, .inl (cI, 52, .inl (fun _ => 0))), (q2, .inl (cI, 120, .inl (fun _ => 0))), (q3, .inl (cI, 10, .inl (fun _ => 0))), (q4, .inl (cI, 10, .inl (fun _ => 0))), (q5, .inl (cI, 10, .inl (fun _ => 0))), (q6, .inl (cI, 10, .inl (fun _ => 0))), (q7, .inl (cI, 10, .inl (fun _ => 0))), (q8, .inl (cI, 10, .inl (fun _ => 0))), (q9, .inl (cI, 120, .inl (fun _ => 0))), (q10, .inl (cI, 8, .inl (fun _ => 0))), (q11, .inl (cI, 8, .inl (fun _ => 0))), (q12, .inl (cI, 32, .inl (fun _ => 0))), (q13, .inl (cI, 32, .inl (fun _ => 0)))]) rfl ?_
  refine u_putF (q0 := 0) (ws' := [(h0, .inr (10, [.ref q1, .int 0, .ref q2, .ref q3, .ref q4, .ref q5, .ref q6, .ref q7, .ref q8, .int 0, .int 0, .ref q9, .int 0, .int 0, .ref q10, .ref q11, .int 0, .ref q12, .ref q13, .null, .null, .null, .int 0, .null, .int 0, .null, .null, .int 0, .int 0, .int 0, .int 0, .int 0, .int 0, .int 0, .null, .null, .null, .int 0, .int 0, .int 0, .null, .int 0, .null, .int 0, .null, .null, .int 0, .int 0, .long 0, .null, .null, .int 0, .int 0, .int 0, .int 0, .int 0, .null, .null, .null])), (q1, .inl (cI, 52, .inl (fun _ => 0))), (q2, .inl (cI, 120, .inl (fun _ => 0))), (q3, .inl (cI, 10, .inl (fun _ => 0))), (q4, .inl (cI, 10, .inl (fun _ => 0))), (q5, .inl (cI, 10, .inl (fun _ => 0))), (q6, .inl (cI, 10, .inl (fun _ => 0))), (q7, .inl (cI, 10, .inl (fun _ => 0))), (q8, .inl (cI, 10, .inl (fun _ => 0))), (q9, .inl (cI, 120, .inl (fun _ => 0))), (q10, .inl (cI, 8, .inl (fun _ => 0))), (q11, .inl (cI, 8, .inl (fun _ => 0))), (q12, .inl (cI, 32, .inl (fun _ => 0))), (q13, .inl (cI, 32, .inl (fun _ => 0)))]) O hI dX10_init_105 fo_X10_46 ff_10_18 rfl rfl rfl rfl (Nat.le_of_ble_eq_true rfl) rfl ?_
  refine u_aload_n O dX10_init_108 rfl 0 rfl ?_
  refine u_bipush O dX10_init_109 kb_32 ?_
  refine u_newI (N := 32) O dX10_init_111 (by decide) (by decide) (by decide) (by decide) (fun q14 cz ez => ?_)
  have ez := eI.symm.trans ez
  subst ez
  refine u_eq (ws' := [(h0, .inr (10, [.ref q1, .int 0, .ref q2, .ref q3, .ref q4, .ref q5, .ref q6, .ref q7, .ref q8, .int 0, .int 0, .ref q9, .int 0, .int 0, .ref q10, .ref q11, .int 0, .ref q12, .ref q13, .null, .null, .null, .int 0, .null, .int 0, .null, .null, .int 0, .int 0, .int 0, .int 0, .int 0, .int 0, .int 0, .null, .null, .null, .int 0, .int 0, .int 0, .null, .int 0, .null, .int 0, .null, .null, .int 0, .int 0, .long 0, .null, .null, .int 0, .int 0, .int 0, .int 0, .int 0, .null, .null, .null])), (q1, .inl (cI, 52, .inl (fun _ => 0))), (q2, .inl (cI, 120, .inl (fun _ => 0))), (q3, .inl (cI, 10, .inl (fun _ => 0))), (q4, .inl (cI, 10, .inl (fun _ => 0))), (q5, .inl (cI, 10, .inl (fun _ => 0))), (q6, .inl (cI, 10, .inl (fun _ => 0))), (q7, .inl (cI, 10, .inl (fun _ => 0))), (q8, .inl (cI, 10, .inl (fun _ => 0))), (q9, .inl (cI, 120, .inl (fun _ => 0))), (q10, .inl (cI, 8, .inl (fun _ => 0))), (q11, .inl (cI, 8, .inl (fun _ => 0))), (q12, .inl (cI, 32, .inl (fun _ => 0))), (q13, .inl (cI, 32, .inl (fun _ => 0))), (q14, .inl (cI, 32, .inl (fun _ => 0)))]) rfl ?_
  refine u_putF (q0 := 0) (ws' := [(h0, .inr (10, [.ref q1, .int 0, .ref q2, .ref q3, .ref q4, .ref q5, .ref q6, .ref q7, .ref q8, .int 0, .int 0, .ref q9, .int 0, .int 0, .ref q10, .ref q11, .int 0, .ref q12, .ref q13, .ref q14, .null, .null, .int 0, .null, .int 0, .null, .null, .int 0, .int 0, .int 0, .int 0, .int 0, .int 0, .int 0, .null, .null, .null, .int 0, .int 0, .int 0, .null, .int 0, .null, .int 0, .null, .null, .int 0, .int 0, .long 0, .null, .null, .int 0, .int 0, .int 0, .int 0, .int 0, .null, .null, .null])), (q1, .inl (cI, 52, .inl (fun _ => 0))), (q2, .inl (cI, 120, .inl (fun _ => 0))), (q3, .inl (cI, 10, .inl (fun _ => 0))), (q4, .inl (cI, 10, .inl (fun _ => 0))), (q5, .inl (cI, 10, .inl (fun _ => 0))), (q6, .inl (cI, 10, .inl (fun _ => 0))), (q7, .inl (cI, 10, .inl (fun _ => 0))), (q8, .inl (cI, 10, .inl (fun _ => 0))), (q9, .inl (cI, 120, .inl (fun _ => 0))), (q10, .inl (cI, 8, .inl (fun _ => 0))), (q11, .inl (cI, 8, .inl (fun _ => 0))), (q12, .inl (cI, 32, .inl (fun _ => 0))), (q13, .inl (cI, 32, .inl (fun _ => 0))), (q14, .inl (cI, 32, .inl (fun _ => 0)))]) O hI dX10_init_113 fo_X10_49 ff_10_19 rfl rfl rfl rfl (Nat.le_of_ble_eq_true rfl) rfl ?_
  refine u_aload_n O dX10_init_116 rfl 0 rfl ?_
  refine u_bipush O dX10_init_117 kb_32 ?_
  refine u_newI (N := 32) O dX10_init_119 (by decide) (by decide) (by decide) (by decide) (fun q15 cz ez => ?_)
  have ez := eI.symm.trans ez
  subst ez
  refine u_eq (ws' := [(h0, .inr (10, [.ref q1, .int 0, .ref q2, .ref q3, .ref q4, .ref q5, .ref q6, .ref q7, .ref q8, .int 0, .int 0, .ref q9, .int 0, .int 0, .ref q10, .ref q11, .int 0, .ref q12, .ref q13, .ref q14, .null, .null, .int 0, .null, .int 0, .null, .null, .int 0, .int 0, .int 0, .int 0, .int 0, .int 0, .int 0, .null, .null, .null, .int 0, .int 0, .int 0, .null, .int 0, .null, .int 0, .null, .null, .int 0, .int 0, .long 0, .null, .null, .int 0, .int 0, .int 0, .int 0, .int 0, .null, .null, .null])), (q1, .inl (cI, 52, .inl (fun _ => 0))), (q2, .inl (cI, 120, .inl (fun _ => 0))), (q3, .inl (cI, 10, .inl (fun _ => 0))), (q4, .inl (cI, 10, .inl (fun _ => 0))), (q5, .inl (cI, 10, .inl (fun _ => 0))), (q6, .inl (cI, 10, .inl (fun _ => 0))), (q7, .inl (cI, 10, .inl (fun _ => 0))), (q8, .inl (cI, 10, .inl (fun _ => 0))), (q9, .inl (cI, 120, .inl (fun _ => 0))), (q10, .inl (cI, 8, .inl (fun _ => 0))), (q11, .inl (cI, 8, .inl (fun _ => 0))), (q12, .inl (cI, 32, .inl (fun _ => 0))), (q13, .inl (cI, 32, .inl (fun _ => 0))), (q14, .inl (cI, 32, .inl (fun _ => 0))), (q15, .inl (cI, 32, .inl (fun _ => 0)))]) rfl ?_
  refine u_putF (q0 := 0) (ws' := [(h0, .inr (10, [.ref q1, .int 0, .ref q2, .ref q3, .ref q4, .ref q5, .ref q6, .ref q7, .ref q8, .int 0, .int 0, .ref q9, .int 0, .int 0, .ref q10, .ref q11, .int 0, .ref q12, .ref q13, .ref q14, .ref q15, .null, .int 0, .null, .int 0, .null, .null, .int 0, .int 0, .int 0, .int 0, .int 0, .int 0, .int 0, .null, .null, .null, .int 0, .int 0, .int 0, .null, .int 0, .null, .int 0, .null, .null, .int 0, .int 0, .long 0, .null, .null, .int 0, .int 0, .int 0, .int 0, .int 0, .null, .null, .null])), (q1, .inl (cI, 52, .inl (fun _ => 0))), (q2, .inl (cI, 120, .inl (fun _ => 0))), (q3, .inl (cI, 10, .inl (fun _ => 0))), (q4, .inl (cI, 10, .inl (fun _ => 0))), (q5, .inl (cI, 10, .inl (fun _ => 0))), (q6, .inl (cI, 10, .inl (fun _ => 0))), (q7, .inl (cI, 10, .inl (fun _ => 0))), (q8, .inl (cI, 10, .inl (fun _ => 0))), (q9, .inl (cI, 120, .inl (fun _ => 0))), (q10, .inl (cI, 8, .inl (fun _ => 0))), (q11, .inl (cI, 8, .inl (fun _ => 0))), (q12, .inl (cI, 32, .inl (fun _ => 0))), (q13, .inl (cI, 32, .inl (fun _ => 0))), (q14, .inl (cI, 32, .inl (fun _ => 0))), (q15, .inl (cI, 32, .inl (fun _ => 0)))]) O hI dX10_init_121 fo_X10_52 ff_10_20 rfl rfl rfl rfl (Nat.le_of_ble_eq_true rfl) rfl ?_
  refine u_aload_n O dX10_init_124 rfl 0 rfl ?_
  refine u_bipush O dX10_init_125 kb_32 ?_
  refine u_newI (N := 32) O dX10_init_127 (by decide) (by decide) (by decide) (by decide) (fun q16 cz ez => ?_)
  have ez := eI.symm.trans ez
  subst ez
  refine u_eq (ws' := [(h0, .inr (10, [.ref q1, .int 0, .ref q2, .ref q3, .ref q4, .ref q5, .ref q6, .ref q7, .ref q8, .int 0, .int 0, .ref q9, .int 0, .int 0, .ref q10, .ref q11, .int 0, .ref q12, .ref q13, .ref q14, .ref q15, .null, .int 0, .null, .int 0, .null, .null, .int 0, .int 0, .int 0, .int 0, .int 0, .int 0, .int 0, .null, .null, .null, .int 0, .int 0, .int 0, .null, .int 0, .null, .int 0, .null, .null, .int 0, .int 0, .long 0, .null, .null, .int 0, .int 0, .int 0, .int 0, .int 0, .null, .null, .null])), (q1, .inl (cI, 52, .inl (fun _ => 0))), (q2, .inl (cI, 120, .inl (fun _ => 0))), (q3, .inl (cI, 10, .inl (fun _ => 0))), (q4, .inl (cI, 10, .inl (fun _ => 0))), (q5, .inl (cI, 10, .inl (fun _ => 0))), (q6, .inl (cI, 10, .inl (fun _ => 0))), (q7, .inl (cI, 10, .inl (fun _ => 0))), (q8, .inl (cI, 10, .inl (fun _ => 0))), (q9, .inl (cI, 120, .inl (fun _ => 0))), (q10, .inl (cI, 8, .inl (fun _ => 0))), (q11, .inl (cI, 8, .inl (fun _ => 0))), (q12, .inl (cI, 32, .inl (fun _ => 0))), (q13, .inl (cI, 32, .inl (fun _ => 0))), (q14, .inl (cI, 32, .inl (fun _ => 0))), (q15, .inl (cI, 32, .inl (fun _ => 0))), (q16, .inl (cI, 32, .inl (fun _ => 0)))]) rfl ?_
  refine u_putF (q0 := 0) (ws' := [(h0, .inr (10, [.ref q1, .int 0, .ref q2, .ref q3, .ref q4, .ref q5, .ref q6, .ref q7, .ref q8, .int 0, .int 0, .ref q9, .int 0, .int 0, .ref q10, .ref q11, .int 0, .ref q12, .ref q13, .ref q14, .ref q15, .ref q16, .int 0, .null, .int 0, .null, .null, .int 0, .int 0, .int 0, .int 0, .int 0, .int 0, .int 0, .null, .null, .null, .int 0, .int 0, .int 0, .null, .int 0, .null, .int 0, .null, .null, .int 0, .int 0, .long 0, .null, .null, .int 0, .int 0, .int 0, .int 0, .int 0, .null, .null, .null])), (q1, .inl (cI, 52, .inl (fun _ => 0))), (q2, .inl (cI, 120, .inl (fun _ => 0))), (q3, .inl (cI, 10, .inl (fun _ => 0))), (q4, .inl (cI, 10, .inl (fun _ => 0))), (q5, .inl (cI, 10, .inl (fun _ => 0))), (q6, .inl (cI, 10, .inl (fun _ => 0))), (q7, .inl (cI, 10, .inl (fun _ => 0))), (q8, .inl (cI, 10, .inl (fun _ => 0))), (q9, .inl (cI, 120, .inl (fun _ => 0))), (q10, .inl (cI, 8, .inl (fun _ => 0))), (q11, .inl (cI, 8, .inl (fun _ => 0))), (q12, .inl (cI, 32, .inl (fun _ => 0))), (q13, .inl (cI, 32, .inl (fun _ => 0))), (q14, .inl (cI, 32, .inl (fun _ => 0))), (q15, .inl (cI, 32, .inl (fun _ => 0))), (q16, .inl (cI, 32, .inl (fun _ => 0)))]) O hI dX10_init_129 fo_X10_55 ff_10_21 rfl rfl rfl rfl (Nat.le_of_ble_eq_true rfl) rfl ?_
  refine u_aload_n O dX10_init_132 rfl 0 rfl ?_
  refine u_bipush O dX10_init_133 kb_10 ?_
  refine u_newI (N := 10) O dX10_init_135 (by decide) (by decide) (by decide) (by decide) (fun q17 cz ez => ?_)
  have ez := eI.symm.trans ez
  subst ez
  refine u_eq (ws' := [(h0, .inr (10, [.ref q1, .int 0, .ref q2, .ref q3, .ref q4, .ref q5, .ref q6, .ref q7, .ref q8, .int 0, .int 0, .ref q9, .int 0, .int 0, .ref q10, .ref q11, .int 0, .ref q12, .ref q13, .ref q14, .ref q15, .ref q16, .int 0, .null, .int 0, .null, .null, .int 0, .int 0, .int 0, .int 0, .int 0, .int 0, .int 0, .null, .null, .null, .int 0, .int 0, .int 0, .null, .int 0, .null, .int 0, .null, .null, .int 0, .int 0, .long 0, .null, .null, .int 0, .int 0, .int 0, .int 0, .int 0, .null, .null, .null])), (q1, .inl (cI, 52, .inl (fun _ => 0))), (q2, .inl (cI, 120, .inl (fun _ => 0))), (q3, .inl (cI, 10, .inl (fun _ => 0))), (q4, .inl (cI, 10, .inl (fun _ => 0))), (q5, .inl (cI, 10, .inl (fun _ => 0))), (q6, .inl (cI, 10, .inl (fun _ => 0))), (q7, .inl (cI, 10, .inl (fun _ => 0))), (q8, .inl (cI, 10, .inl (fun _ => 0))), (q9, .inl (cI, 120, .inl (fun _ => 0))), (q10, .inl (cI, 8, .inl (fun _ => 0))), (q11, .inl (cI, 8, .inl (fun _ => 0))), (q12, .inl (cI, 32, .inl (fun _ => 0))), (q13, .inl (cI, 32, .inl (fun _ => 0))), (q14, .inl (cI, 32, .inl (fun _ => 0))), (q15, .inl (cI, 32, .inl (fun _ => 0))), (q16, .inl (cI, 32, .inl (fun _ => 0))), (q17, .inl (cI, 10, .inl (fun _ => 0)))]) rfl ?_
  refine u_putF (q0 := 0) (ws' := [(h0, .inr (10, [.ref q1, .int 0, .ref q2, .ref q3, .ref q4, .ref q5, .ref q6, .ref q7, .ref q8, .int 0, .int 0, .ref q9, .int 0, .int 0, .ref q10, .ref q11, .int 0, .ref q12, .ref q13, .ref q14, .ref q15, .ref q16, .int 0, .ref q17, .int 0, .null, .null, .int 0, .int 0, .int 0, .int 0, .int 0, .int 0, .int 0, .null, .null, .null, .int 0, .int 0, .int 0, .null, .int 0, .null, .int 0, .null, .null, .int 0, .int 0, .long 0, .null, .null, .int 0, .int 0, .int 0, .int 0, .int 0, .null, .null, .null])), (q1, .inl (cI, 52, .inl (fun _ => 0))), (q2, .inl (cI, 120, .inl (fun _ => 0))), (q3, .inl (cI, 10, .inl (fun _ => 0))), (q4, .inl (cI, 10, .inl (fun _ => 0))), (q5, .inl (cI, 10, .inl (fun _ => 0))), (q6, .inl (cI, 10, .inl (fun _ => 0))), (q7, .inl (cI, 10, .inl (fun _ => 0))), (q8, .inl (cI, 10, .inl (fun _ => 0))), (q9, .inl (cI, 120, .inl (fun _ => 0))), (q10, .inl (cI, 8, .inl (fun _ => 0))), (q11, .inl (cI, 8, .inl (fun _ => 0))), (q12, .inl (cI, 32, .inl (fun _ => 0))), (q13, .inl (cI, 32, .inl (fun _ => 0))), (q14, .inl (cI, 32, .inl (fun _ => 0))), (q15, .inl (cI, 32, .inl (fun _ => 0))), (q16, .inl (cI, 32, .inl (fun _ => 0))), (q17, .inl (cI, 10, .inl (fun _ => 0)))]) O hI dX10_init_137 fo_X10_58 ff_10_23 rfl rfl rfl rfl (Nat.le_of_ble_eq_true rfl) rfl ?_
  refine u_aload_n O dX10_init_140 rfl 0 rfl ?_
  refine u_bipush O dX10_init_141 kb_10 ?_
  refine u_newI (N := 10) O dX10_init_143 (by decide) (by decide) (by decide) (by decide) (fun q18 cz ez => ?_)
  have ez := eI.symm.trans ez
  subst ez
  refine u_eq (ws' := [(h0, .inr (10, [.ref q1, .int 0, .ref q2, .ref q3, .ref q4, .ref q5, .ref q6, .ref q7, .ref q8, .int 0, .int 0, .ref q9, .int 0, .int 0, .ref q10, .ref q11, .int 0, .ref q12, .ref q13, .ref q14, .ref q15, .ref q16, .int 0, .ref q17, .int 0, .null, .null, .int 0, .int 0, .int 0, .int 0, .int 0, .int 0, .int 0, .null, .null, .null, .int 0, .int 0, .int 0, .null, .int 0, .null, .int 0, .null, .null, .int 0, .int 0, .long 0, .null, .null, .int 0, .int 0, .int 0, .int 0, .int 0, .null, .null, .null])), (q1, .inl (cI, 52, .inl (fun _ => 0))), (q2, .inl (cI, 120, .inl (fun _ => 0))), (q3, .inl (cI, 10, .inl (fun _ => 0))), (q4, .inl (cI, 10, .inl (fun _ => 0))), (q5, .inl (cI, 10, .inl (fun _ => 0))), (q6, .inl (cI, 10, .inl (fun _ => 0))), (q7, .inl (cI, 10, .inl (fun _ => 0))), (q8, .inl (cI, 10, .inl (fun _ => 0))), (q9, .inl (cI, 120, .inl (fun _ => 0))), (q10, .inl (cI, 8, .inl (fun _ => 0))), (q11, .inl (cI, 8, .inl (fun _ => 0))), (q12, .inl (cI, 32, .inl (fun _ => 0))), (q13, .inl (cI, 32, .inl (fun _ => 0))), (q14, .inl (cI, 32, .inl (fun _ => 0))), (q15, .inl (cI, 32, .inl (fun _ => 0))), (q16, .inl (cI, 32, .inl (fun _ => 0))), (q17, .inl (cI, 10, .inl (fun _ => 0))), (q18, .inl (cI, 10, .inl (fun _ => 0)))]) rfl ?_
  refine u_putF (q0 := 0) (ws' := [(h0, .inr (10, [.ref q1, .int 0, .ref q2, .ref q3, .ref q4, .ref q5, .ref q6, .ref q7, .ref q8, .int 0, .int 0, .ref q9, .int 0, .int 0, .ref q10, .ref q11, .int 0, .ref q12, .ref q13, .ref q14, .ref q15, .ref q16, .int 0, .ref q17, .int 0, .ref q18, .null, .int 0, .int 0, .int 0, .int 0, .int 0, .int 0, .int 0, .null, .null, .null, .int 0, .int 0, .int 0, .null, .int 0, .null, .int 0, .null, .null, .int 0, .int 0, .long 0, .null, .null, .int 0, .int 0, .int 0, .int 0, .int 0, .null, .null, .null])), (q1, .inl (cI, 52, .inl (fun _ => 0))), (q2, .inl (cI, 120, .inl (fun _ => 0))), (q3, .inl (cI, 10, .inl (fun _ => 0))), (q4, .inl (cI, 10, .inl (fun _ => 0))), (q5, .inl (cI, 10, .inl (fun _ => 0))), (q6, .inl (cI, 10, .inl (fun _ => 0))), (q7, .inl (cI, 10, .inl (fun _ => 0))), (q8, .inl (cI, 10, .inl (fun _ => 0))), (q9, .inl (cI, 120, .inl (fun _ => 0))), (q10, .inl (cI, 8, .inl (fun _ => 0))), (q11, .inl (cI, 8, .inl (fun _ => 0))), (q12, .inl (cI, 32, .inl (fun _ => 0))), (q13, .inl (cI, 32, .inl (fun _ => 0))), (q14, .inl (cI, 32, .inl (fun _ => 0))), (q15, .inl (cI, 32, .inl (fun _ => 0))), (q16, .inl (cI, 32, .inl (fun _ => 0))), (q17, .inl (cI, 10, .inl (fun _ => 0))), (q18, .inl (cI, 10, .inl (fun _ => 0)))]) O hI dX10_init_145 fo_X10_61 ff_10_25 rfl rfl rfl rfl (Nat.le_of_ble_eq_true rfl) rfl ?_
  refine u_aload_n O dX10_init_148 rfl 0 rfl ?_
  refine u_bipush O dX10_init_149 kb_10 ?_
  refine u_newI (N := 10) O dX10_init_151 (by decide) (by decide) (by decide) (by decide) (fun q19 cz ez => ?_)
  have ez := eI.symm.trans ez
  subst ez
  refine u_eq (ws' := [(h0, .inr (10, [.ref q1, .int 0, .ref q2, .ref q3, .ref q4, .ref q5, .ref q6, .ref q7, .ref q8, .int 0, .int 0, .ref q9, .int 0, .int 0, .ref q10, .ref q11, .int 0, .ref q12, .ref q13, .ref q14, .ref q15, .ref q16, .int 0, .ref q17, .int 0, .ref q18, .null, .int 0, .int 0, .int 0, .int 0, .int 0, .int 0, .int 0, .null, .null, .null, .int 0, .int 0, .int 0, .null, .int 0, .null, .int 0, .null, .null, .int 0, .int 0, .long 0, .null, .null, .int 0, .int 0, .int 0, .int 0, .int 0, .null, .null, .null])), (q1, .inl (cI, 52, .inl (fun _ => 0))), (q2, .inl (cI, 120, .inl (fun _ => 0))), (q3, .inl (cI, 10, .inl (fun _ => 0))), (q4, .inl (cI, 10, .inl (fun _ => 0))), (q5, .inl (cI, 10, .inl (fun _ => 0))), (q6, .inl (cI, 10, .inl (fun _ => 0))), (q7, .inl (cI, 10, .inl (fun _ => 0))), (q8, .inl (cI, 10, .inl (fun _ => 0))), (q9, .inl (cI, 120, .inl (fun _ => 0))), (q10, .inl (cI, 8, .inl (fun _ => 0))), (q11, .inl (cI, 8, .inl (fun _ => 0))), (q12, .inl (cI, 32, .inl (fun _ => 0))), (q13, .inl (cI, 32, .inl (fun _ => 0))), (q14, .inl (cI, 32, .inl (fun _ => 0))), (q15, .inl (cI, 32, .inl (fun _ => 0))), (q16, .inl (cI, 32, .inl (fun _ => 0))), (q17, .inl (cI, 10, .inl (fun _ => 0))), (q18, .inl (cI, 10, .inl (fun _ => 0))), (q19, .inl (cI, 10, .inl (fun _ => 0)))]) rfl ?_
  refine u_putF (q0 := 0) (ws' := [(h0, .inr (10, [.ref q1, .int 0, .ref q2, .ref q3, .ref q4, .ref q5, .ref q6, .ref q7, .ref q8, .int 0, .int 0, .ref q9, .int 0, .int 0, .ref q10, .ref q11, .int 0, .ref q12, .ref q13, .ref q14, .ref q15, .ref q16, .int 0, .ref q17, .int 0, .ref q18, .ref q19, .int 0, .int 0, .int 0, .int 0, .int 0, .int 0, .int 0, .null, .null, .null, .int 0, .int 0, .int 0, .null, .int 0, .null, .int 0, .null, .null, .int 0, .int 0, .long 0, .null, .null, .int 0, .int 0, .int 0, .int 0, .int 0, .null, .null, .null])), (q1, .inl (cI, 52, .inl (fun _ => 0))), (q2, .inl (cI, 120, .inl (fun _ => 0))), (q3, .inl (cI, 10, .inl (fun _ => 0))), (q4, .inl (cI, 10, .inl (fun _ => 0))), (q5, .inl (cI, 10, .inl (fun _ => 0))), (q6, .inl (cI, 10, .inl (fun _ => 0))), (q7, .inl (cI, 10, .inl (fun _ => 0))), (q8, .inl (cI, 10, .inl (fun _ => 0))), (q9, .inl (cI, 120, .inl (fun _ => 0))), (q10, .inl (cI, 8, .inl (fun _ => 0))), (q11, .inl (cI, 8, .inl (fun _ => 0))), (q12, .inl (cI, 32, .inl (fun _ => 0))), (q13, .inl (cI, 32, .inl (fun _ => 0))), (q14, .inl (cI, 32, .inl (fun _ => 0))), (q15, .inl (cI, 32, .inl (fun _ => 0))), (q16, .inl (cI, 32, .inl (fun _ => 0))), (q17, .inl (cI, 10, .inl (fun _ => 0))), (q18, .inl (cI, 10, .inl (fun _ => 0))), (q19, .inl (cI, 10, .inl (fun _ => 0)))]) O hI dX10_init_153 fo_X10_64 ff_10_26 rfl rfl rfl rfl (Nat.le_of_ble_eq_true rfl) rfl ?_
  refine u_aload_n O dX10_init_156 rfl 0 rfl ?_
  refine u_iconst O dX10_init_157 kc_m1 ?_
  refine u_put (q0 := 0) (ws' := [(h0, .inr (10, [.ref q1, .int 0, .ref q2, .ref q3, .ref q4, .ref q5, .ref q6, .ref q7, .ref q8, .int 0, .int 0, .ref q9, .int 0, .int 0, .ref q10, .ref q11, .int 0, .ref q12, .ref q13, .ref q14, .ref q15, .ref q16, .int 0, .ref q17, .int 0, .ref q18, .ref q19, .int 0, .int 0, .int 0, .int 0, .int (-1), .int 0, .int 0, .null, .null, .null, .int 0, .int 0, .int 0, .null, .int 0, .null, .int 0, .null, .null, .int 0, .int 0, .long 0, .null, .null, .int 0, .int 0, .int 0, .int 0, .int 0, .null, .null, .null])), (q1, .inl (cI, 52, .inl (fun _ => 0))), (q2, .inl (cI, 120, .inl (fun _ => 0))), (q3, .inl (cI, 10, .inl (fun _ => 0))), (q4, .inl (cI, 10, .inl (fun _ => 0))), (q5, .inl (cI, 10, .inl (fun _ => 0))), (q6, .inl (cI, 10, .inl (fun _ => 0))), (q7, .inl (cI, 10, .inl (fun _ => 0))), (q8, .inl (cI, 10, .inl (fun _ => 0))), (q9, .inl (cI, 120, .inl (fun _ => 0))), (q10, .inl (cI, 8, .inl (fun _ => 0))), (q11, .inl (cI, 8, .inl (fun _ => 0))), (q12, .inl (cI, 32, .inl (fun _ => 0))), (q13, .inl (cI, 32, .inl (fun _ => 0))), (q14, .inl (cI, 32, .inl (fun _ => 0))), (q15, .inl (cI, 32, .inl (fun _ => 0))), (q16, .inl (cI, 32, .inl (fun _ => 0))), (q17, .inl (cI, 10, .inl (fun _ => 0))), (q18, .inl (cI, 10, .inl (fun _ => 0))), (q19, .inl (cI, 10, .inl (fun _ => 0)))]) O dX10_init_158 fo_X10_67 fp_10_31 rfl rfl rfl (Nat.le_of_ble_eq_true rfl) rfl ?_
  refine u_aload_n O dX10_init_161 rfl 0 rfl ?_
  refine u_iconst O dX10_init_162 kc_4 ?_
  refine u_newI (N := 4) O dX10_init_163 (by decide) (by decide) (by decide) (by decide) (fun q20 cz ez => ?_)
  have ez := eI.symm.trans ez
  subst ez
  refine u_eq (ws' := [(h0, .inr (10, [.ref q1, .int 0, .ref q2, .ref q3, .ref q4, .ref q5, .ref q6, .ref q7, .ref q8, .int 0, .int 0, .ref q9, .int 0, .int 0, .ref q10, .ref q11, .int 0, .ref q12, .ref q13, .ref q14, .ref q15, .ref q16, .int 0, .ref q17, .int 0, .ref q18, .ref q19, .int 0, .int 0, .int 0, .int 0, .int (-1), .int 0, .int 0, .null, .null, .null, .int 0, .int 0, .int 0, .null, .int 0, .null, .int 0, .null, .null, .int 0, .int 0, .long 0, .null, .null, .int 0, .int 0, .int 0, .int 0, .int 0, .null, .null, .null])), (q1, .inl (cI, 52, .inl (fun _ => 0))), (q2, .inl (cI, 120, .inl (fun _ => 0))), (q3, .inl (cI, 10, .inl (fun _ => 0))), (q4, .inl (cI, 10, .inl (fun _ => 0))), (q5, .inl (cI, 10, .inl (fun _ => 0))), (q6, .inl (cI, 10, .inl (fun _ => 0))), (q7, .inl (cI, 10, .inl (fun _ => 0))), (q8, .inl (cI, 10, .inl (fun _ => 0))), (q9, .inl (cI, 120, .inl (fun _ => 0))), (q10, .inl (cI, 8, .inl (fun _ => 0))), (q11, .inl (cI, 8, .inl (fun _ => 0))), (q12, .inl (cI, 32, .inl (fun _ => 0))), (q13, .inl (cI, 32, .inl (fun _ => 0))), (q14, .inl (cI, 32, .inl (fun _ => 0))), (q15, .inl (cI, 32, .inl (fun _ => 0))), (q16, .inl (cI, 32, .inl (fun _ => 0))), (q17, .inl (cI, 10, .inl (fun _ => 0))), (q18, .inl (cI, 10, .inl (fun _ => 0))), (q19, .inl (cI, 10, .inl (fun _ => 0))), (q20, .inl (cI, 4, .inl (fun _ => 0)))]) rfl ?_
  refine u_putF (q0 := 0) (ws' := [(h0, .inr (10, [.ref q1, .int 0, .ref q2, .ref q3, .ref q4, .ref q5, .ref q6, .ref q7, .ref q8, .int 0, .int 0, .ref q9, .int 0, .int 0, .ref q10, .ref q11, .int 0, .ref q12, .ref q13, .ref q14, .ref q15, .ref q16, .int 0, .ref q17, .int 0, .ref q18, .ref q19, .int 0, .int 0, .int 0, .int 0, .int (-1), .int 0, .int 0, .ref q20, .null, .null, .int 0, .int 0, .int 0, .null, .int 0, .null, .int 0, .null, .null, .int 0, .int 0, .long 0, .null, .null, .int 0, .int 0, .int 0, .int 0, .int 0, .null, .null, .null])), (q1, .inl (cI, 52, .inl (fun _ => 0))), (q2, .inl (cI, 120, .inl (fun _ => 0))), (q3, .inl (cI, 10, .inl (fun _ => 0))), (q4, .inl (cI, 10, .inl (fun _ => 0))), (q5, .inl (cI, 10, .inl (fun _ => 0))), (q6, .inl (cI, 10, .inl (fun _ => 0))), (q7, .inl (cI, 10, .inl (fun _ => 0))), (q8, .inl (cI, 10, .inl (fun _ => 0))), (q9, .inl (cI, 120, .inl (fun _ => 0))), (q10, .inl (cI, 8, .inl (fun _ => 0))), (q11, .inl (cI, 8, .inl (fun _ => 0))), (q12, .inl (cI, 32, .inl (fun _ => 0))), (q13, .inl (cI, 32, .inl (fun _ => 0))), (q14, .inl (cI, 32, .inl (fun _ => 0))), (q15, .inl (cI, 32, .inl (fun _ => 0))), (q16, .inl (cI, 32, .inl (fun _ => 0))), (q17, .inl (cI, 10, .inl (fun _ => 0))), (q18, .inl (cI, 10, .inl (fun _ => 0))), (q19, .inl (cI, 10, .inl (fun _ => 0))), (q20, .inl (cI, 4, .inl (fun _ => 0)))]) O hI dX10_init_165 fo_X10_71 ff_10_34 rfl rfl rfl rfl (Nat.le_of_ble_eq_true rfl) rfl ?_
  refine u_aload_n O dX10_init_168 rfl 0 rfl ?_
  refine u_iconst O dX10_init_169 kc_4 ?_
  refine u_newI (N := 4) O dX10_init_170 (by decide) (by decide) (by decide) (by decide) (fun q21 cz ez => ?_)
  have ez := eI.symm.trans ez
  subst ez
  refine u_eq (ws' := [(h0, .inr (10, [.ref q1, .int 0, .ref q2, .ref q3, .ref q4, .ref q5, .ref q6, .ref q7, .ref q8, .int 0, .int 0, .ref q9, .int 0, .int 0, .ref q10, .ref q11, .int 0, .ref q12, .ref q13, .ref q14, .ref q15, .ref q16, .int 0, .ref q17, .int 0, .ref q18, .ref q19, .int 0, .int 0, .int 0, .int 0, .int (-1), .int 0, .int 0, .ref q20, .null, .null, .int 0, .int 0, .int 0, .null, .int 0, .null, .int 0, .null, .null, .int 0, .int 0, .long 0, .null, .null, .int 0, .int 0, .int 0, .int 0, .int 0, .null, .null, .null])), (q1, .inl (cI, 52, .inl (fun _ => 0))), (q2, .inl (cI, 120, .inl (fun _ => 0))), (q3, .inl (cI, 10, .inl (fun _ => 0))), (q4, .inl (cI, 10, .inl (fun _ => 0))), (q5, .inl (cI, 10, .inl (fun _ => 0))), (q6, .inl (cI, 10, .inl (fun _ => 0))), (q7, .inl (cI, 10, .inl (fun _ => 0))), (q8, .inl (cI, 10, .inl (fun _ => 0))), (q9, .inl (cI, 120, .inl (fun _ => 0))), (q10, .inl (cI, 8, .inl (fun _ => 0))), (q11, .inl (cI, 8, .inl (fun _ => 0))), (q12, .inl (cI, 32, .inl (fun _ => 0))), (q13, .inl (cI, 32, .inl (fun _ => 0))), (q14, .inl (cI, 32, .inl (fun _ => 0))), (q15, .inl (cI, 32, .inl (fun _ => 0))), (q16, .inl (cI, 32, .inl (fun _ => 0))), (q17, .inl (cI, 10, .inl (fun _ => 0))), (q18, .inl (cI, 10, .inl (fun _ => 0))), (q19, .inl (cI, 10, .inl (fun _ => 0))), (q20, .inl (cI, 4, .inl (fun _ => 0))), (q21, .inl (cI, 4, .inl (fun _ => 0)))]) rfl ?_
  refine u_putF (q0 := 0) (ws' := [(h0, .inr (10, [.ref q1, .int 0, .ref q2, .ref q3, .ref q4, .ref q5, .ref q6, .ref q7, .ref q8, .int 0, .int 0, .ref q9, .int 0, .int 0, .ref q10, .ref q11, .int 0, .ref q12, .ref q13, .ref q14, .ref q15, .ref q16, .int 0, .ref q17, .int 0, .ref q18, .ref q19, .int 0, .int 0, .int 0, .int 0, .int (-1), .int 0, .int 0, .ref q20, .ref q21, .null, .int 0, .int 0, .int 0, .null, .int 0, .null, .int 0, .null, .null, .int 0, .int 0, .long 0, .null, .null, .int 0, .int 0, .int 0, .int 0, .int 0, .null, .null, .null])), (q1, .inl (cI, 52, .inl (fun _ => 0))), (q2, .inl (cI, 120, .inl (fun _ => 0))), (q3, .inl (cI, 10, .inl (fun _ => 0))), (q4, .inl (cI, 10, .inl (fun _ => 0))), (q5, .inl (cI, 10, .inl (fun _ => 0))), (q6, .inl (cI, 10, .inl (fun _ => 0))), (q7, .inl (cI, 10, .inl (fun _ => 0))), (q8, .inl (cI, 10, .inl (fun _ => 0))), (q9, .inl (cI, 120, .inl (fun _ => 0))), (q10, .inl (cI, 8, .inl (fun _ => 0))), (q11, .inl (cI, 8, .inl (fun _ => 0))), (q12, .inl (cI, 32, .inl (fun _ => 0))), (q13, .inl (cI, 32, .inl (fun _ => 0))), (q14, .inl (cI, 32, .inl (fun _ => 0))), (q15, .inl (cI, 32, .inl (fun _ => 0))), (q16, .inl (cI, 32, .inl (fun _ => 0))), (q17, .inl (cI, 10, .inl (fun _ => 0))), (q18, .inl (cI, 10, .inl (fun _ => 0))), (q19, .inl (cI, 10, .inl (fun _ => 0))), (q20, .inl (cI, 4, .inl (fun _ => 0))), (q21, .inl (cI, 4, .inl (fun _ => 0)))]) O hI dX10_init_172 fo_X10_74 ff_10_35 rfl rfl rfl rfl (Nat.le_of_ble_eq_true rfl) rfl ?_
  refine u_aload_n O dX10_init_175 rfl 0 rfl ?_
  refine u_iconst O dX10_init_176 kc_4 ?_
  refine u_newI (N := 4) O dX10_init_177 (by decide) (by decide) (by decide) (by decide) (fun q22 cz ez => ?_)
  have ez := eI.symm.trans ez
  subst ez
  refine u_eq (ws' := [(h0, .inr (10, [.ref q1, .int 0, .ref q2, .ref q3, .ref q4, .ref q5, .ref q6, .ref q7, .ref q8, .int 0, .int 0, .ref q9, .int 0, .int 0, .ref q10, .ref q11, .int 0, .ref q12, .ref q13, .ref q14, .ref q15, .ref q16, .int 0, .ref q17, .int 0, .ref q18, .ref q19, .int 0, .int 0, .int 0, .int 0, .int (-1), .int 0, .int 0, .ref q20, .ref q21, .null, .int 0, .int 0, .int 0, .null, .int 0, .null, .int 0, .null, .null, .int 0, .int 0, .long 0, .null, .null, .int 0, .int 0, .int 0, .int 0, .int 0, .null, .null, .null])), (q1, .inl (cI, 52, .inl (fun _ => 0))), (q2, .inl (cI, 120, .inl (fun _ => 0))), (q3, .inl (cI, 10, .inl (fun _ => 0))), (q4, .inl (cI, 10, .inl (fun _ => 0))), (q5, .inl (cI, 10, .inl (fun _ => 0))), (q6, .inl (cI, 10, .inl (fun _ => 0))), (q7, .inl (cI, 10, .inl (fun _ => 0))), (q8, .inl (cI, 10, .inl (fun _ => 0))), (q9, .inl (cI, 120, .inl (fun _ => 0))), (q10, .inl (cI, 8, .inl (fun _ => 0))), (q11, .inl (cI, 8, .inl (fun _ => 0))), (q12, .inl (cI, 32, .inl (fun _ => 0))), (q13, .inl (cI, 32, .inl (fun _ => 0))), (q14, .inl (cI, 32, .inl (fun _ => 0))), (q15, .inl (cI, 32, .inl (fun _ => 0))), (q16, .inl (cI, 32, .inl (fun _ => 0))), (q17, .inl (cI, 10, .inl (fun _ => 0))), (q18, .inl (cI, 10, .inl (fun _ => 0))), (q19, .inl (cI, 10, .inl (fun _ => 0))), (q20, .inl (cI, 4, .inl (fun _ => 0))), (q21, .inl (cI, 4, .inl (fun _ => 0))), (q22, .inl (cI, 4, .inl (fun _ => 0)))]) rfl ?_
  refine u_putF (q0 := 0) (ws' := [(h0, .inr (10, [.ref q1, .int 0, .ref q2, .ref q3, .ref q4, .ref q5, .ref q6, .ref q7, .ref q8, .int 0, .int 0, .ref q9, .int 0, .int 0, .ref q10, .ref q11, .int 0, .ref q12, .ref q13, .ref q14, .ref q15, .ref q16, .int 0, .ref q17, .int 0, .ref q18, .ref q19, .int 0, .int 0, .int 0, .int 0, .int (-1), .int 0, .int 0, .ref q20, .ref q21, .ref q22, .int 0, .int 0, .int 0, .null, .int 0, .null, .int 0, .null, .null, .int 0, .int 0, .long 0, .null, .null, .int 0, .int 0, .int 0, .int 0, .int 0, .null, .null, .null])), (q1, .inl (cI, 52, .inl (fun _ => 0))), (q2, .inl (cI, 120, .inl (fun _ => 0))), (q3, .inl (cI, 10, .inl (fun _ => 0))), (q4, .inl (cI, 10, .inl (fun _ => 0))), (q5, .inl (cI, 10, .inl (fun _ => 0))), (q6, .inl (cI, 10, .inl (fun _ => 0))), (q7, .inl (cI, 10, .inl (fun _ => 0))), (q8, .inl (cI, 10, .inl (fun _ => 0))), (q9, .inl (cI, 120, .inl (fun _ => 0))), (q10, .inl (cI, 8, .inl (fun _ => 0))), (q11, .inl (cI, 8, .inl (fun _ => 0))), (q12, .inl (cI, 32, .inl (fun _ => 0))), (q13, .inl (cI, 32, .inl (fun _ => 0))), (q14, .inl (cI, 32, .inl (fun _ => 0))), (q15, .inl (cI, 32, .inl (fun _ => 0))), (q16, .inl (cI, 32, .inl (fun _ => 0))), (q17, .inl (cI, 10, .inl (fun _ => 0))), (q18, .inl (cI, 10, .inl (fun _ => 0))), (q19, .inl (cI, 10, .inl (fun _ => 0))), (q20, .inl (cI, 4, .inl (fun _ => 0))), (q21, .inl (cI, 4, .inl (fun _ => 0))), (q22, .inl (cI, 4, .inl (fun _ => 0)))]) O hI dX10_init_179 fo_X10_77 ff_10_36 rfl rfl rfl rfl (Nat.le_of_ble_eq_true rfl) rfl ?_
  refine u_aload_n O dX10_init_182 rfl 0 rfl ?_
  refine u_bipush O dX10_init_183 kb_10 ?_
  refine u_newI (N := 10) O dX10_init_185 (by decide) (by decide) (by decide) (by decide) (fun q23 cz ez => ?_)
  have ez := eI.symm.trans ez
  subst ez
  refine u_eq (ws' := [(h0, .inr (10, [.ref q1, .int 0, .ref q2, .ref q3, .ref q4, .ref q5, .ref q6, .ref q7, .ref q8, .int 0, .int 0, .ref q9, .int 0, .int 0, .ref q10, .ref q11, .int 0, .ref q12, .ref q13, .ref q14, .ref q15, .ref q16, .int 0, .ref q17, .int 0, .ref q18, .ref q19, .int 0, .int 0, .int 0, .int 0, .int (-1), .int 0, .int 0, .ref q20, .ref q21, .ref q22, .int 0, .int 0, .int 0, .null, .int 0, .null, .int 0, .null, .null, .int 0, .int 0, .long 0, .null, .null, .int 0, .int 0, .int 0, .int 0, .int 0, .null, .null, .null])), (q1, .inl (cI, 52, .inl (fun _ => 0))), (q2, .inl (cI, 120, .inl (fun _ => 0))), (q3, .inl (cI, 10, .inl (fun _ => 0))), (q4, .inl (cI, 10, .inl (fun _ => 0))), (q5, .inl (cI, 10, .inl (fun _ => 0))), (q6, .inl (cI, 10, .inl (fun _ => 0))), (q7, .inl (cI, 10, .inl (fun _ => 0))), (q8, .inl (cI, 10, .inl (fun _ => 0))), (q9, .inl (cI, 120, .inl (fun _ => 0))), (q10, .inl (cI, 8, .inl (fun _ => 0))), (q11, .inl (cI, 8, .inl (fun _ => 0))), (q12, .inl (cI, 32, .inl (fun _ => 0))), (q13, .inl (cI, 32, .inl (fun _ => 0))), (q14, .inl (cI, 32, .inl (fun _ => 0))), (q15, .inl (cI, 32, .inl (fun _ => 0))), (q16, .inl (cI, 32, .inl (fun _ => 0))), (q17, .inl (cI, 10, .inl (fun _ => 0))), (q18, .inl (cI, 10, .inl (fun _ => 0))), (q19, .inl (cI, 10, .inl (fun _ => 0))), (q20, .inl (cI, 4, .inl (fun _ => 0))), (q21, .inl (cI, 4, .inl (fun _ => 0))), (q22, .inl (cI, 4, .inl (fun _ => 0))), (q23, .inl (cI, 10, .inl (fun _ => 0)))]) rfl ?_
  refine u_putF (q0 := 0) (ws' := [(h0, .inr (10, [.ref q1, .int 0, .ref q2, .ref q3, .ref q4, .ref q5, .ref q6, .ref q7, .ref q8, .int 0, .int 0, .ref q9, .int 0, .int 0, .ref q10, .ref q11, .int 0, .ref q12, .ref q13, .ref q14, .ref q15, .ref q16, .int 0, .ref q17, .int 0, .ref q18, .ref q19, .int 0, .int 0, .int 0, .int 0, .int (-1), .int 0, .int 0, .ref q20, .ref q21, .ref q22, .int 0, .int 0, .int 0, .ref q23, .int 0, .null, .int 0, .null, .null, .int 0, .int 0, .long 0, .null, .null, .int 0, .int 0, .int 0, .int 0, .int 0, .null, .null, .null])), (q1, .inl (cI, 52, .inl (fun _ => 0))), (q2, .inl (cI, 120, .inl (fun _ => 0))), (q3, .inl (cI, 10, .inl (fun _ => 0))), (q4, .inl (cI, 10, .inl (fun _ => 0))), (q5, .inl (cI, 10, .inl (fun _ => 0))), (q6, .inl (cI, 10, .inl (fun _ => 0))), (q7, .inl (cI, 10, .inl (fun _ => 0))), (q8, .inl (cI, 10, .inl (fun _ => 0))), (q9, .inl (cI, 120, .inl (fun _ => 0))), (q10, .inl (cI, 8, .inl (fun _ => 0))), (q11, .inl (cI, 8, .inl (fun _ => 0))), (q12, .inl (cI, 32, .inl (fun _ => 0))), (q13, .inl (cI, 32, .inl (fun _ => 0))), (q14, .inl (cI, 32, .inl (fun _ => 0))), (q15, .inl (cI, 32, .inl (fun _ => 0))), (q16, .inl (cI, 32, .inl (fun _ => 0))), (q17, .inl (cI, 10, .inl (fun _ => 0))), (q18, .inl (cI, 10, .inl (fun _ => 0))), (q19, .inl (cI, 10, .inl (fun _ => 0))), (q20, .inl (cI, 4, .inl (fun _ => 0))), (q21, .inl (cI, 4, .inl (fun _ => 0))), (q22, .inl (cI, 4, .inl (fun _ => 0))), (q23, .inl (cI, 10, .inl (fun _ => 0)))]) O hI dX10_init_187 fo_X10_80 ff_10_40 rfl rfl rfl rfl (Nat.le_of_ble_eq_true rfl) rfl ?_
  refine u_aload_n O dX10_init_190 rfl 0 rfl ?_
  refine u_bipush O dX10_init_191 kb_20 ?_
  refine u_newI (N := 20) O dX10_init_193 (by decide) (by decide) (by decide) (by decide) (fun q24 cz ez => ?_)
  have ez := eI.symm.trans ez
  subst ez
  refine u_eq (ws' := [(h0, .inr (10, [.ref q1, .int 0, .ref q2, .ref q3, .ref q4, .ref q5, .ref q6, .ref q7, .ref q8, .int 0, .int 0, .ref q9, .int 0, .int 0, .ref q10, .ref q11, .int 0, .ref q12, .ref q13, .ref q14, .ref q15, .ref q16, .int 0, .ref q17, .int 0, .ref q18, .ref q19, .int 0, .int 0, .int 0, .int 0, .int (-1), .int 0, .int 0, .ref q20, .ref q21, .ref q22, .int 0, .int 0, .int 0, .ref q23, .int 0, .null, .int 0, .null, .null, .int 0, .int 0, .long 0, .null, .null, .int 0, .int 0, .int 0, .int 0, .int 0, .null, .null, .null])), (q1, .inl (cI, 52, .inl (fun _ => 0))), (q2, .inl (cI, 120, .inl (fun _ => 0))), (q3, .inl (cI, 10, .inl (fun _ => 0))), (q4, .inl (cI, 10, .inl (fun _ => 0))), (q5, .inl (cI, 10, .inl (fun _ => 0))), (q6, .inl (cI, 10, .inl (fun _ => 0))), (q7, .inl (cI, 10, .inl (fun _ => 0))), (q8, .inl (cI, 10, .inl (fun _ => 0))), (q9, .inl (cI, 120, .inl (fun _ => 0))), (q10, .inl (cI, 8, .inl (fun _ => 0))), (q11, .inl (cI, 8, .inl (fun _ => 0))), (q12, .inl (cI, 32, .inl (fun _ => 0))), (q13, .inl (cI, 32, .inl (fun _ => 0))), (q14, .inl (cI, 32, .inl (fun _ => 0))), (q15, .inl (cI, 32, .inl (fun _ => 0))), (q16, .inl (cI, 32, .inl (fun _ => 0))), (q17, .inl (cI, 10, .inl (fun _ => 0))), (q18, .inl (cI, 10, .inl (fun _ => 0))), (q19, .inl (cI, 10, .inl (fun _ => 0))), (q20, .inl (cI, 4, .inl (fun _ => 0))), (q21, .inl (cI, 4, .inl (fun _ => 0))), (q22, .inl (cI, 4, .inl (fun _ => 0))), (q23, .inl (cI, 10, .inl (fun _ => 0))), (q24, .inl (cI, 20, .inl (fun _ => 0)))]) rfl ?_
  refine u_putF (q0 := 0) (ws' := [(h0, .inr (10, [.ref q1, .int 0, .ref q2, .ref q3, .ref q4, .ref q5, .ref q6, .ref q7, .ref q8, .int 0, .int 0, .ref q9, .int 0, .int 0, .ref q10, .ref q11, .int 0, .ref q12, .ref q13, .ref q14, .ref q15, .ref q16, .int 0, .ref q17, .int 0, .ref q18, .ref q19, .int 0, .int 0, .int 0, .int 0, .int (-1), .int 0, .int 0, .ref q20, .ref q21, .ref q22, .int 0, .int 0, .int 0, .ref q23, .int 0, .ref q24, .int 0, .null, .null, .int 0, .int 0, .long 0, .null, .null, .int 0, .int 0, .int 0, .int 0, .int 0, .null, .null, .null])), (q1, .inl (cI, 52, .inl (fun _ => 0))), (q2, .inl (cI, 120, .inl (fun _ => 0))), (q3, .inl (cI, 10, .inl (fun _ => 0))), (q4, .inl (cI, 10, .inl (fun _ => 0))), (q5, .inl (cI, 10, .inl (fun _ => 0))), (q6, .inl (cI, 10, .inl (fun _ => 0))), (q7, .inl (cI, 10, .inl (fun _ => 0))), (q8, .inl (cI, 10, .inl (fun _ => 0))), (q9, .inl (cI, 120, .inl (fun _ => 0))), (q10, .inl (cI, 8, .inl (fun _ => 0))), (q11, .inl (cI, 8, .inl (fun _ => 0))), (q12, .inl (cI, 32, .inl (fun _ => 0))), (q13, .inl (cI, 32, .inl (fun _ => 0))), (q14, .inl (cI, 32, .inl (fun _ => 0))), (q15, .inl (cI, 32, .inl (fun _ => 0))), (q16, .inl (cI, 32, .inl (fun _ => 0))), (q17, .inl (cI, 10, .inl (fun _ => 0))), (q18, .inl (cI, 10, .inl (fun _ => 0))), (q19, .inl (cI, 10, .inl (fun _ => 0))), (q20, .inl (cI, 4, .inl (fun _ => 0))), (q21, .inl (cI, 4, .inl (fun _ => 0))), (q22, .inl (cI, 4, .inl (fun _ => 0))), (q23, .inl (cI, 10, .inl (fun _ => 0))), (q24, .inl (cI, 20, .inl (fun _ => 0)))]) O hI dX10_init_195 fo_X10_83 ff_10_42 rfl rfl rfl rfl (Nat.le_of_ble_eq_true rfl) rfl ?_
  refine u_aload_n O dX10_init_198 rfl 0 rfl ?_
  refine u_bipush O dX10_init_199 kb_20 ?_
  refine u_newI (N := 20) O dX10_init_201 (by decide) (by decide) (by decide) (by decide) (fun q25 cz ez => ?_)
  have ez := eI.symm.trans ez
  subst ez
  refine u_eq (ws' := [(h0, .inr (10, [.ref q1, .int 0, .ref q2, .ref q3, .ref q4, .ref q5, .ref q6, .ref q7, .ref q8, .int 0, .int 0, .ref q9, .int 0, .int 0, .ref q10, .ref q11, .int 0, .ref q12, .ref q13, .ref q14, .ref q15, .ref q16, .int 0, .ref q17, .int 0, .ref q18, .ref q19, .int 0, .int 0, .int 0, .int 0, .int (-1), .int 0, .int 0, .ref q20, .ref q21, .ref q22, .int 0, .int 0, .int 0, .ref q23, .int 0, .ref q24, .int 0, .null, .null, .int 0, .int 0, .long 0, .null, .null, .int 0, .int 0, .int 0, .int 0, .int 0, .null, .null, .null])), (q1, .inl (cI, 52, .inl (fun _ => 0))), (q2, .inl (cI, 120, .inl (fun _ => 0))), (q3, .inl (cI, 10, .inl (fun _ => 0))), (q4, .inl (cI, 10, .inl (fun _ => 0))), (q5, .inl (cI, 10, .inl (fun _ => 0))), (q6, .inl (cI, 10, .inl (fun _ => 0))), (q7, .inl (cI, 10, .inl (fun _ => 0))), (q8, .inl (cI, 10, .inl (fun _ => 0))), (q9, .inl (cI, 120, .inl (fun _ => 0))), (q10, .inl (cI, 8, .inl (fun _ => 0))), (q11, .inl (cI, 8, .inl (fun _ => 0))), (q12, .inl (cI, 32, .inl (fun _ => 0))), (q13, .inl (cI, 32, .inl (fun _ => 0))), (q14, .inl (cI, 32, .inl (fun _ => 0))), (q15, .inl (cI, 32, .inl (fun _ => 0))), (q16, .inl (cI, 32, .inl (fun _ => 0))), (q17, .inl (cI, 10, .inl (fun _ => 0))), (q18, .inl (cI, 10, .inl (fun _ => 0))), (q19, .inl (cI, 10, .inl (fun _ => 0))), (q20, .inl (cI, 4, .inl (fun _ => 0))), (q21, .inl (cI, 4, .inl (fun _ => 0))), (q22, .inl (cI, 4, .inl (fun _ => 0))), (q23, .inl (cI, 10, .inl (fun _ => 0))), (q24, .inl (cI, 20, .inl (fun _ => 0))), (q25, .inl (cI, 20, .inl (fun _ => 0)))]) rfl ?_
  refine u_putF (q0 := 0) (ws' := [(h0, .inr (10, [.ref q1, .int 0, .ref q2, .ref q3, .ref q4, .ref q5, .ref q6, .ref q7, .ref q8, .int 0, .int 0, .ref q9, .int 0, .int 0, .ref q10, .ref q11, .int 0, .ref q12, .ref q13, .ref q14, .ref q15, .ref q16, .int 0, .ref q17, .int 0, .ref q18, .ref q19, .int 0, .int 0, .int 0, .int 0, .int (-1), .int 0, .int 0, .ref q20, .ref q21, .ref q22, .int 0, .int 0, .int 0, .ref q23, .int 0, .ref q24, .int 0, .ref q25, .null, .int 0, .int 0, .long 0, .null, .null, .int 0, .int 0, .int 0, .int 0, .int 0, .null, .null, .null])), (q1, .inl (cI, 52, .inl (fun _ => 0))), (q2, .inl (cI, 120, .inl (fun _ => 0))), (q3, .inl (cI, 10, .inl (fun _ => 0))), (q4, .inl (cI, 10, .inl (fun _ => 0))), (q5, .inl (cI, 10, .inl (fun _ => 0))), (q6, .inl (cI, 10, .inl (fun _ => 0))), (q7, .inl (cI, 10, .inl (fun _ => 0))), (q8, .inl (cI, 10, .inl (fun _ => 0))), (q9, .inl (cI, 120, .inl (fun _ => 0))), (q10, .inl (cI, 8, .inl (fun _ => 0))), (q11, .inl (cI, 8, .inl (fun _ => 0))), (q12, .inl (cI, 32, .inl (fun _ => 0))), (q13, .inl (cI, 32, .inl (fun _ => 0))), (q14, .inl (cI, 32, .inl (fun _ => 0))), (q15, .inl (cI, 32, .inl (fun _ => 0))), (q16, .inl (cI, 32, .inl (fun _ => 0))), (q17, .inl (cI, 10, .inl (fun _ => 0))), (q18, .inl (cI, 10, .inl (fun _ => 0))), (q19, .inl (cI, 10, .inl (fun _ => 0))), (q20, .inl (cI, 4, .inl (fun _ => 0))), (q21, .inl (cI, 4, .inl (fun _ => 0))), (q22, .inl (cI, 4, .inl (fun _ => 0))), (q23, .inl (cI, 10, .inl (fun _ => 0))), (q24, .inl (cI, 20, .inl (fun _ => 0))), (q25, .inl (cI, 20, .inl (fun _ => 0)))]) O hI dX10_init_203 fo_X10_86 ff_10_44 rfl rfl rfl rfl (Nat.le_of_ble_eq_true rfl) rfl ?_
  refine u_aload_n O dX10_init_206 rfl 0 rfl ?_
  refine u_bipush O dX10_init_207 kb_8 ?_
  refine u_newI (N := 8) O dX10_init_209 (by decide) (by decide) (by decide) (by decide) (fun q26 cz ez => ?_)
  have ez := eI.symm.trans ez
  subst ez
  refine u_eq (ws' := [(h0, .inr (10, [.ref q1, .int 0, .ref q2, .ref q3, .ref q4, .ref q5, .ref q6, .ref q7, .ref q8, .int 0, .int 0, .ref q9, .int 0, .int 0, .ref q10, .ref q11, .int 0, .ref q12, .ref q13, .ref q14, .ref q15, .ref q16, .int 0, .ref q17, .int 0, .ref q18, .ref q19, .int 0, .int 0, .int 0, .int 0, .int (-1), .int 0, .int 0, .ref q20, .ref q21, .ref q22, .int 0, .int 0, .int 0, .ref q23, .int 0, .ref q24, .int 0, .ref q25, .null, .int 0, .int 0, .long 0, .null, .null, .int 0, .int 0, .int 0, .int 0, .int 0, .null, .null, .null])), (q1, .inl (cI, 52, .inl (fun _ => 0))), (q2, .inl (cI, 120, .inl (fun _ => 0))), (q3, .inl (cI, 10, .inl (fun _ => 0))), (q4, .inl (cI, 10, .inl (fun _ => 0))), (q5, .inl (cI, 10, .inl (fun _ => 0))), (q6, .inl (cI, 10, .inl (fun _ => 0))), (q7, .inl (cI, 10, .inl (fun _ => 0))), (q8, .inl (cI, 10, .inl (fun _ => 0))), (q9, .inl (cI, 120, .inl (fun _ => 0))), (q10, .inl (cI, 8, .inl (fun _ => 0))), (q11, .inl (cI, 8, .inl (fun _ => 0))), (q12, .inl (cI, 32, .inl (fun _ => 0))), (q13, .inl (cI, 32, .inl (fun _ => 0))), (q14, .inl (cI, 32, .inl (fun _ => 0))), (q15, .inl (cI, 32, .inl (fun _ => 0))), (q16, .inl (cI, 32, .inl (fun _ => 0))), (q17, .inl (cI, 10, .inl (fun _ => 0))), (q18, .inl (cI, 10, .inl (fun _ => 0))), (q19, .inl (cI, 10, .inl (fun _ => 0))), (q20, .inl (cI, 4, .inl (fun _ => 0))), (q21, .inl (cI, 4, .inl (fun _ => 0))), (q22, .inl (cI, 4, .inl (fun _ => 0))), (q23, .inl (cI, 10, .inl (fun _ => 0))), (q24, .inl (cI, 20, .inl (fun _ => 0))), (q25, .inl (cI, 20, .inl (fun _ => 0))), (q26, .inl (cI, 8, .inl (fun _ => 0)))]) rfl ?_
  refine u_putF (q0 := 0) (ws' := [(h0, .inr (10, [.ref q1, .int 0, .ref q2, .ref q3, .ref q4, .ref q5, .ref q6, .ref q7, .ref q8, .int 0, .int 0, .ref q9, .int 0, .int 0, .ref q10, .ref q11, .int 0, .ref q12, .ref q13, .ref q14, .ref q15, .ref q16, .int 0, .ref q17, .int 0, .ref q18, .ref q19, .int 0, .int 0, .int 0, .int 0, .int (-1), .int 0, .int 0, .ref q20, .ref q21, .ref q22, .int 0, .int 0, .int 0, .ref q23, .int 0, .ref q24, .int 0, .ref q25, .ref q26, .int 0, .int 0, .long 0, .null, .null, .int 0, .int 0, .int 0, .int 0, .int 0, .null, .null, .null])), (q1, .inl (cI, 52, .inl (fun _ => 0))), (q2, .inl (cI, 120, .inl (fun _ => 0))), (q3, .inl (cI, 10, .inl (fun _ => 0))), (q4, .inl (cI, 10, .inl (fun _ => 0))), (q5, .inl (cI, 10, .inl (fun _ => 0))), (q6, .inl (cI, 10, .inl (fun _ => 0))), (q7, .inl (cI, 10, .inl (fun _ => 0))), (q8, .inl (cI, 10, .inl (fun _ => 0))), (q9, .inl (cI, 120, .inl (fun _ => 0))), (q10, .inl (cI, 8, .inl (fun _ => 0))), (q11, .inl (cI, 8, .inl (fun _ => 0))), (q12, .inl (cI, 32, .inl (fun _ => 0))), (q13, .inl (cI, 32, .inl (fun _ => 0))), (q14, .inl (cI, 32, .inl (fun _ => 0))), (q15, .inl (cI, 32, .inl (fun _ => 0))), (q16, .inl (cI, 32, .inl (fun _ => 0))), (q17, .inl (cI, 10, .inl (fun _ => 0))), (q18, .inl (cI, 10, .inl (fun _ => 0))), (q19, .inl (cI, 10, .inl (fun _ => 0))), (q20, .inl (cI, 4, .inl (fun _ => 0))), (q21, .inl (cI, 4, .inl (fun _ => 0))), (q22, .inl (cI, 4, .inl (fun _ => 0))), (q23, .inl (cI, 10, .inl (fun _ => 0))), (q24, .inl (cI, 20, .inl (fun _ => 0))), (q25, .inl (cI, 20, .inl (fun _ => 0))), (q26, .inl (cI, 8, .inl (fun _ => 0)))]) O hI dX10_init_211 fo_X10_89 ff_10_45 rfl rfl rfl rfl (Nat.le_of_ble_eq_true rfl) rfl ?_
  refine u_aload_n O dX10_init_214 rfl 0 rfl ?_
  refine u_bipush O dX10_init_215 kb_20 ?_
  refine u_newI (N := 20) O dX10_init_217 (by decide) (by decide) (by decide) (by decide) (fun q27 cz ez => ?_)
  have ez := eI.symm.trans ez
  subst ez
  refine u_eq (ws' := [(h0, .inr (10, [.ref q1, .int 0, .ref q2, .ref q3, .ref q4, .ref q5, .ref q6, .ref q7, .ref q8, .int 0, .int 0, .ref q9, .int 0, .int 0, .ref q10, .ref q11, .int 0, .ref q12, .ref q13, .ref q14, .ref q15, .ref q16, .int 0, .ref q17, .int 0, .ref q18, .ref q19, .int 0, .int 0, .int 0, .int 0, .int (-1), .int 0, .int 0, .ref q20, .ref q21, .ref q22, .int 0, .int 0, .int 0, .ref q23, .int 0, .ref q24, .int 0, .ref q25, .ref q26, .int 0, .int 0, .long 0, .null, .null, .int 0, .int 0, .int 0, .int 0, .int 0, .null, .null, .null])), (q1, .inl (cI, 52, .inl (fun _ => 0))), (q2, .inl (cI, 120, .inl (fun _ => 0))), (q3, .inl (cI, 10, .inl (fun _ => 0))), (q4, .inl (cI, 10, .inl (fun _ => 0))), (q5, .inl (cI, 10, .inl (fun _ => 0))), (q6, .inl (cI, 10, .inl (fun _ => 0))), (q7, .inl (cI, 10, .inl (fun _ => 0))), (q8, .inl (cI, 10, .inl (fun _ => 0))), (q9, .inl (cI, 120, .inl (fun _ => 0))), (q10, .inl (cI, 8, .inl (fun _ => 0))), (q11, .inl (cI, 8, .inl (fun _ => 0))), (q12, .inl (cI, 32, .inl (fun _ => 0))), (q13, .inl (cI, 32, .inl (fun _ => 0))), (q14, .inl (cI, 32, .inl (fun _ => 0))), (q15, .inl (cI, 32, .inl (fun _ => 0))), (q16, .inl (cI, 32, .inl (fun _ => 0))), (q17, .inl (cI, 10, .inl (fun _ => 0))), (q18, .inl (cI, 10, .inl (fun _ => 0))), (q19, .inl (cI, 10, .inl (fun _ => 0))), (q20, .inl (cI, 4, .inl (fun _ => 0))), (q21, .inl (cI, 4, .inl (fun _ => 0))), (q22, .inl (cI, 4, .inl (fun _ => 0))), (q23, .inl (cI, 10, .inl (fun _ => 0))), (q24, .inl (cI, 20, .inl (fun _ => 0))), (q25, .inl (cI, 20, .inl (fun _ => 0))), (q26, .inl (cI, 8, .inl (fun _ => 0))), (q27, .inl (cI, 20, .inl (fun _ => 0)))]) rfl ?_
  refine u_putF (q0 := 0) (ws' := [(h0, .inr (10, [.ref q1, .int 0, .ref q2, .ref q3, .ref q4, .ref q5, .ref q6, .ref q7, .ref q8, .int 0, .int 0, .ref q9, .int 0, .int 0, .ref q10, .ref q11, .int 0, .ref q12, .ref q13, .ref q14, .ref q15, .ref q16, .int 0, .ref q17, .int 0, .ref q18, .ref q19, .int 0, .int 0, .int 0, .int 0, .int (-1), .int 0, .int 0, .ref q20, .ref q21, .ref q22, .int 0, .int 0, .int 0, .ref q23, .int 0, .ref q24, .int 0, .ref q25, .ref q26, .int 0, .int 0, .long 0, .ref q27, .null, .int 0, .int 0, .int 0, .int 0, .int 0, .null, .null, .null])), (q1, .inl (cI, 52, .inl (fun _ => 0))), (q2, .inl (cI, 120, .inl (fun _ => 0))), (q3, .inl (cI, 10, .inl (fun _ => 0))), (q4, .inl (cI, 10, .inl (fun _ => 0))), (q5, .inl (cI, 10, .inl (fun _ => 0))), (q6, .inl (cI, 10, .inl (fun _ => 0))), (q7, .inl (cI, 10, .inl (fun _ => 0))), (q8, .inl (cI, 10, .inl (fun _ => 0))), (q9, .inl (cI, 120, .inl (fun _ => 0))), (q10, .inl (cI, 8, .inl (fun _ => 0))), (q11, .inl (cI, 8, .inl (fun _ => 0))), (q12, .inl (cI, 32, .inl (fun _ => 0))), (q13, .inl (cI, 32, .inl (fun _ => 0))), (q14, .inl (cI, 32, .inl (fun _ => 0))), (q15, .inl (cI, 32, .inl (fun _ => 0))), (q16, .inl (cI, 32, .inl (fun _ => 0))), (q17, .inl (cI, 10, .inl (fun _ => 0))), (q18, .inl (cI, 10, .inl (fun _ => 0))), (q19, .inl (cI, 10, .inl (fun _ => 0))), (q20, .inl (cI, 4, .inl (fun _ => 0))), (q21, .inl (cI, 4, .inl (fun _ => 0))), (q22, .inl (cI, 4, .inl (fun _ => 0))), (q23, .inl (cI, 10, .inl (fun _ => 0))), (q24, .inl (cI, 20, .inl (fun _ => 0))), (q25, .inl (cI, 20, .inl (fun _ => 0))), (q26, .inl (cI, 8, .inl (fun _ => 0))), (q27, .inl (cI, 20, .inl (fun _ => 0)))]) O hI dX10_init_219 fo_X10_92 ff_10_49 rfl rfl rfl rfl (Nat.le_of_ble_eq_true rfl) rfl ?_
  refine u_aload_n O dX10_init_222 rfl 0 rfl ?_
  refine u_sipush O dX10_init_223 ks_200 ?_
  refine u_newL (N := 200) O dX10_init_226 (by decide) (by decide) (by decide) (by decide) (fun q28 cz ez => ?_)
  have ez := eL.symm.trans ez
  subst ez
  refine u_eq (ws' := [(h0, .inr (10, [.ref q1, .int 0, .ref q2, .ref q3, .ref q4, .ref q5, .ref q6, .ref q7, .ref q8, .int 0, .int 0, .ref q9, .int 0, .int 0, .ref q10, .ref q11, .int 0, .ref q12, .ref q13, .ref q14, .ref q15, .ref q16, .int 0, .ref q17, .int 0, .ref q18, .ref q19, .int 0, .int 0, .int 0, .int 0, .int (-1), .int 0, .int 0, .ref q20, .ref q21, .ref q22, .int 0, .int 0, .int 0, .ref q23, .int 0, .ref q24, .int 0, .ref q25, .ref q26, .int 0, .int 0, .long 0, .ref q27, .null, .int 0, .int 0, .int 0, .int 0, .int 0, .null, .null, .null])), (q1, .inl (cI, 52, .inl (fun _ => 0))), (q2, .inl (cI, 120, .inl (fun _ => 0))), (q3, .inl (cI, 10, .inl (fun _ => 0))), (q4, .inl (cI, 10, .inl (fun _ => 0))), (q5, .inl (cI, 10, .inl (fun _ => 0))), (q6, .inl (cI, 10, .inl (fun _ => 0))), (q7, .inl (cI, 10, .inl (fun _ => 0))), (q8, .inl (cI, 10, .inl (fun _ => 0))), (q9, .inl (cI, 120, .inl (fun _ => 0))), (q10, .inl (cI, 8, .inl (fun _ => 0))), (q11, .inl (cI, 8, .inl (fun _ => 0))), (q12, .inl (cI, 32, .inl (fun _ => 0))), (q13, .inl (cI, 32, .inl (fun _ => 0))), (q14, .inl (cI, 32, .inl (fun _ => 0))), (q15, .inl (cI, 32, .inl (fun _ => 0))), (q16, .inl (cI, 32, .inl (fun _ => 0))), (q17, .inl (cI, 10, .inl (fun _ => 0))), (q18, .inl (cI, 10, .inl (fun _ => 0))), (q19, .inl (cI, 10, .inl (fun _ => 0))), (q20, .inl (cI, 4, .inl (fun _ => 0))), (q21, .inl (cI, 4, .inl (fun _ => 0))), (q22, .inl (cI, 4, .inl (fun _ => 0))), (q23, .inl (cI, 10, .inl (fun _ => 0))), (q24, .inl (cI, 20, .inl (fun _ => 0))), (q25, .inl (cI, 20, .inl (fun _ => 0))), (q26, .inl (cI, 8, .inl (fun _ => 0))), (q27, .inl (cI, 20, .inl (fun _ => 0))), (q28, .inl (cL, 200, .inr (.inl (fun _ => 0))))]) rfl ?_
  refine u_putF (q0 := 0) (ws' := [(h0, .inr (10, [.ref q1, .int 0, .ref q2, .ref q3, .ref q4, .ref q5, .ref q6, .ref q7, .ref q8, .int 0, .int 0, .ref q9, .int 0, .int 0, .ref q10, .ref q11, .int 0, .ref q12, .ref q13, .ref q14, .ref q15, .ref q16, .int 0, .ref q17, .int 0, .ref q18, .ref q19, .int 0, .int 0, .int 0, .int 0, .int (-1), .int 0, .int 0, .ref q20, .ref q21, .ref q22, .int 0, .int 0, .int 0, .ref q23, .int 0, .ref q24, .int 0, .ref q25, .ref q26, .int 0, .int 0, .long 0, .ref q27, .ref q28, .int 0, .int 0, .int 0, .int 0, .int 0, .null, .null, .null])), (q1, .inl (cI, 52, .inl (fun _ => 0))), (q2, .inl (cI, 120, .inl (fun _ => 0))), (q3, .inl (cI, 10, .inl (fun _ => 0))), (q4, .inl (cI, 10, .inl (fun _ => 0))), (q5, .inl (cI, 10, .inl (fun _ => 0))), (q6, .inl (cI, 10, .inl (fun _ => 0))), (q7, .inl (cI, 10, .inl (fun _ => 0))), (q8, .inl (cI, 10, .inl (fun _ => 0))), (q9, .inl (cI, 120, .inl (fun _ => 0))), (q10, .inl (cI, 8, .inl (fun _ => 0))), (q11, .inl (cI, 8, .inl (fun _ => 0))), (q12, .inl (cI, 32, .inl (fun _ => 0))), (q13, .inl (cI, 32, .inl (fun _ => 0))), (q14, .inl (cI, 32, .inl (fun _ => 0))), (q15, .inl (cI, 32, .inl (fun _ => 0))), (q16, .inl (cI, 32, .inl (fun _ => 0))), (q17, .inl (cI, 10, .inl (fun _ => 0))), (q18, .inl (cI, 10, .inl (fun _ => 0))), (q19, .inl (cI, 10, .inl (fun _ => 0))), (q20, .inl (cI, 4, .inl (fun _ => 0))), (q21, .inl (cI, 4, .inl (fun _ => 0))), (q22, .inl (cI, 4, .inl (fun _ => 0))), (q23, .inl (cI, 10, .inl (fun _ => 0))), (q24, .inl (cI, 20, .inl (fun _ => 0))), (q25, .inl (cI, 20, .inl (fun _ => 0))), (q26, .inl (cI, 8, .inl (fun _ => 0))), (q27, .inl (cI, 20, .inl (fun _ => 0))), (q28, .inl (cL, 200, .inr (.inl (fun _ => 0))))]) O hI dX10_init_228 fo_X10_95 ff_10_50 rfl rfl rfl rfl (Nat.le_of_ble_eq_true rfl) rfl ?_
  refine u_aload_n O dX10_init_231 rfl 0 rfl ?_
  refine u_bipush O dX10_init_232 kb_8 ?_
  refine u_newI (N := 8) O dX10_init_234 (by decide) (by decide) (by decide) (by decide) (fun q29 cz ez => ?_)
  have ez := eI.symm.trans ez
  subst ez
  refine u_eq (ws' := [(h0, .inr (10, [.ref q1, .int 0, .ref q2, .ref q3, .ref q4, .ref q5, .ref q6, .ref q7, .ref q8, .int 0, .int 0, .ref q9, .int 0, .int 0, .ref q10, .ref q11, .int 0, .ref q12, .ref q13, .ref q14, .ref q15, .ref q16, .int 0, .ref q17, .int 0, .ref q18, .ref q19, .int 0, .int 0, .int 0, .int 0, .int (-1), .int 0, .int 0, .ref q20, .ref q21, .ref q22, .int 0, .int 0, .int 0, .ref q23, .int 0, .ref q24, .int 0, .ref q25, .ref q26, .int 0, .int 0, .long 0, .ref q27, .ref q28, .int 0, .int 0, .int 0, .int 0, .int 0, .null, .null, .null])), (q1, .inl (cI, 52, .inl (fun _ => 0))), (q2, .inl (cI, 120, .inl (fun _ => 0))), (q3, .inl (cI, 10, .inl (fun _ => 0))), (q4, .inl (cI, 10, .inl (fun _ => 0))), (q5, .inl (cI, 10, .inl (fun _ => 0))), (q6, .inl (cI, 10, .inl (fun _ => 0))), (q7, .inl (cI, 10, .inl (fun _ => 0))), (q8, .inl (cI, 10, .inl (fun _ => 0))), (q9, .inl (cI, 120, .inl (fun _ => 0))), (q10, .inl (cI, 8, .inl (fun _ => 0))), (q11, .inl (cI, 8, .inl (fun _ => 0))), (q12, .inl (cI, 32, .inl (fun _ => 0))), (q13, .inl (cI, 32, .inl (fun _ => 0))), (q14, .inl (cI, 32, .inl (fun _ => 0))), (q15, .inl (cI, 32, .inl (fun _ => 0))), (q16, .inl (cI, 32, .inl (fun _ => 0))), (q17, .inl (cI, 10, .inl (fun _ => 0))), (q18, .inl (cI, 10, .inl (fun _ => 0))), (q19, .inl (cI, 10, .inl (fun _ => 0))), (q20, .inl (cI, 4, .inl (fun _ => 0))), (q21, .inl (cI, 4, .inl (fun _ => 0))), (q22, .inl (cI, 4, .inl (fun _ => 0))), (q23, .inl (cI, 10, .inl (fun _ => 0))), (q24, .inl (cI, 20, .inl (fun _ => 0))), (q25, .inl (cI, 20, .inl (fun _ => 0))), (q26, .inl (cI, 8, .inl (fun _ => 0))), (q27, .inl (cI, 20, .inl (fun _ => 0))), (q28, .inl (cL, 200, .inr (.inl (fun _ => 0)))), (q29, .inl (cI, 8, .inl (fun _ => 0)))]) rfl ?_
  refine u_putF (q0 := 0) (ws' := [(h0, .inr (10, [.ref q1, .int 0, .ref q2, .ref q3, .ref q4, .ref q5, .ref q6, .ref q7, .ref q8, .int 0, .int 0, .ref q9, .int 0, .int 0, .ref q10, .ref q11, .int 0, .ref q12, .ref q13, .ref q14, .ref q15, .ref q16, .int 0, .ref q17, .int 0, .ref q18, .ref q19, .int 0, .int 0, .int 0, .int 0, .int (-1), .int 0, .int 0, .ref q20, .ref q21, .ref q22, .int 0, .int 0, .int 0, .ref q23, .int 0, .ref q24, .int 0, .ref q25, .ref q26, .int 0, .int 0, .long 0, .ref q27, .ref q28, .int 0, .int 0, .int 0, .int 0, .int 0, .ref q29, .null, .null])), (q1, .inl (cI, 52, .inl (fun _ => 0))), (q2, .inl (cI, 120, .inl (fun _ => 0))), (q3, .inl (cI, 10, .inl (fun _ => 0))), (q4, .inl (cI, 10, .inl (fun _ => 0))), (q5, .inl (cI, 10, .inl (fun _ => 0))), (q6, .inl (cI, 10, .inl (fun _ => 0))), (q7, .inl (cI, 10, .inl (fun _ => 0))), (q8, .inl (cI, 10, .inl (fun _ => 0))), (q9, .inl (cI, 120, .inl (fun _ => 0))), (q10, .inl (cI, 8, .inl (fun _ => 0))), (q11, .inl (cI, 8, .inl (fun _ => 0))), (q12, .inl (cI, 32, .inl (fun _ => 0))), (q13, .inl (cI, 32, .inl (fun _ => 0))), (q14, .inl (cI, 32, .inl (fun _ => 0))), (q15, .inl (cI, 32, .inl (fun _ => 0))), (q16, .inl (cI, 32, .inl (fun _ => 0))), (q17, .inl (cI, 10, .inl (fun _ => 0))), (q18, .inl (cI, 10, .inl (fun _ => 0))), (q19, .inl (cI, 10, .inl (fun _ => 0))), (q20, .inl (cI, 4, .inl (fun _ => 0))), (q21, .inl (cI, 4, .inl (fun _ => 0))), (q22, .inl (cI, 4, .inl (fun _ => 0))), (q23, .inl (cI, 10, .inl (fun _ => 0))), (q24, .inl (cI, 20, .inl (fun _ => 0))), (q25, .inl (cI, 20, .inl (fun _ => 0))), (q26, .inl (cI, 8, .inl (fun _ => 0))), (q27, .inl (cI, 20, .inl (fun _ => 0))), (q28, .inl (cL, 200, .inr (.inl (fun _ => 0)))), (q29, .inl (cI, 8, .inl (fun _ => 0)))]) O hI dX10_init_236 fo_X10_99 ff_10_56 rfl rfl rfl rfl (Nat.le_of_ble_eq_true rfl) rfl ?_
  refine u_aload_n O dX10_init_239 rfl 0 rfl ?_
  refine u_iconst O dX10_init_240 kc_4 ?_
  refine u_newI (N := 4) O dX10_init_241 (by decide) (by decide) (by decide) (by decide) (fun q30 cz ez => ?_)
  have ez := eI.symm.trans ez
  subst ez
  refine u_eq (ws' := [(h0, .inr (10, [.ref q1, .int 0, .ref q2, .ref q3, .ref q4, .ref q5, .ref q6, .ref q7, .ref q8, .int 0, .int 0, .ref q9, .int 0, .int 0, .ref q10, .ref q11, .int 0, .ref q12, .ref q13, .ref q14, .ref q15, .ref q16, .int 0, .ref q17, .int 0, .ref q18, .ref q19, .int 0, .int 0, .int 0, .int 0, .int (-1), .int 0, .int 0, .ref q20, .ref q21, .ref q22, .int 0, .int 0, .int 0, .ref q23, .int 0, .ref q24, .int 0, .ref q25, .ref q26, .int 0, .int 0, .long 0, .ref q27, .ref q28, .int 0, .int 0, .int 0, .int 0, .int 0, .ref q29, .null, .null])), (q1, .inl (cI, 52, .inl (fun _ => 0))), (q2, .inl (cI, 120, .inl (fun _ => 0))), (q3, .inl (cI, 10, .inl (fun _ => 0))), (q4, .inl (cI, 10, .inl (fun _ => 0))), (q5, .inl (cI, 10, .inl (fun _ => 0))), (q6, .inl (cI, 10, .inl (fun _ => 0))), (q7, .inl (cI, 10, .inl (fun _ => 0))), (q8, .inl (cI, 10, .inl (fun _ => 0))), (q9, .inl (cI, 120, .inl (fun _ => 0))), (q10, .inl (cI, 8, .inl (fun _ => 0))), (q11, .inl (cI, 8, .inl (fun _ => 0))), (q12, .inl (cI, 32, .inl (fun _ => 0))), (q13, .inl (cI, 32, .inl (fun _ => 0))), (q14, .inl (cI, 32, .inl (fun _ => 0))), (q15, .inl (cI, 32, .inl (fun _ => 0))), (q16, .inl (cI, 32, .inl (fun _ => 0))), (q17, .inl (cI, 10, .inl (fun _ => 0))), (q18, .inl (cI, 10, .inl (fun _ => 0))), (q19, .inl (cI, 10, .inl (fun _ => 0))), (q20, .inl (cI, 4, .inl (fun _ => 0))), (q21, .inl (cI, 4, .inl (fun _ => 0))), (q22, .inl (cI, 4, .inl (fun _ => 0))), (q23, .inl (cI, 10, .inl (fun _ => 0))), (q24, .inl (cI, 20, .inl (fun _ => 0))), (q25, .inl (cI, 20, .inl (fun _ => 0))), (q26, .inl (cI, 8, .inl (fun _ => 0))), (q27, .inl (cI, 20, .inl (fun _ => 0))), (q28, .inl (cL, 200, .inr (.inl (fun _ => 0)))), (q29, .inl (cI, 8, .inl (fun _ => 0))), (q30, .inl (cI, 4, .inl (fun _ => 0)))]) rfl ?_
  refine u_putF (q0 := 0) (ws' := [(h0, .inr (10, [.ref q1, .int 0, .ref q2, .ref q3, .ref q4, .ref q5, .ref q6, .ref q7, .ref q8, .int 0, .int 0, .ref q9, .int 0, .int 0, .ref q10, .ref q11, .int 0, .ref q12, .ref q13, .ref q14, .ref q15, .ref q16, .int 0, .ref q17, .int 0, .ref q18, .ref q19, .int 0, .int 0, .int 0, .int 0, .int (-1), .int 0, .int 0, .ref q20, .ref q21, .ref q22, .int 0, .int 0, .int 0, .ref q23, .int 0, .ref q24, .int 0, .ref q25, .ref q26, .int 0, .int 0, .long 0, .ref q27, .ref q28, .int 0, .int 0, .int 0, .int 0, .int 0, .ref q29, .ref q30, .null])), (q1, .inl (cI, 52, .inl (fun _ => 0))), (q2, .inl (cI, 120, .inl (fun _ => 0))), (q3, .inl (cI, 10, .inl (fun _ => 0))), (q4, .inl (cI, 10, .inl (fun _ => 0))), (q5, .inl (cI, 10, .inl (fun _ => 0))), (q6, .inl (cI, 10, .inl (fun _ => 0))), (q7, .inl (cI, 10, .inl (fun _ => 0))), (q8, .inl (cI, 10, .inl (fun _ => 0))), (q9, .inl (cI, 120, .inl (fun _ => 0))), (q10, .inl (cI, 8, .inl (fun _ => 0))), (q11, .inl (cI, 8, .inl (fun _ => 0))), (q12, .inl (cI, 32, .inl (fun _ => 0))), (q13, .inl (cI, 32, .inl (fun _ => 0))), (q14, .inl (cI, 32, .inl (fun _ => 0))), (q15, .inl (cI, 32, .inl (fun _ => 0))), (q16, .inl (cI, 32, .inl (fun _ => 0))), (q17, .inl (cI, 10, .inl (fun _ => 0))), (q18, .inl (cI, 10, .inl (fun _ => 0))), (q19, .inl (cI, 10, .inl (fun _ => 0))), (q20, .inl (cI, 4, .inl (fun _ => 0))), (q21, .inl (cI, 4, .inl (fun _ => 0))), (q22, .inl (cI, 4, .inl (fun _ => 0))), (q23, .inl (cI, 10, .inl (fun _ => 0))), (q24, .inl (cI, 20, .inl (fun _ => 0))), (q25, .inl (cI, 20, .inl (fun _ => 0))), (q26, .inl (cI, 8, .inl (fun _ => 0))), (q27, .inl (cI, 20, .inl (fun _ => 0))), (q28, .inl (cL, 200, .inr (.inl (fun _ => 0)))), (q29, .inl (cI, 8, .inl (fun _ => 0))), (q30, .inl (cI, 4, .inl (fun _ => 0)))]) O hI dX10_init_243 fo_X10_102 ff_10_57 rfl rfl rfl rfl (Nat.le_of_ble_eq_true rfl) rfl ?_
  refine u_aload_n O dX10_init_246 rfl 0 rfl ?_
  refine u_bipush O dX10_init_247 kb_40 ?_
  refine u_newI (N := 40) O dX10_init_249 (by decide) (by decide) (by decide) (by decide) (fun q31 cz ez => ?_)
  have ez := eI.symm.trans ez
  subst ez
  refine u_eq (ws' := [(h0, .inr (10, [.ref q1, .int 0, .ref q2, .ref q3, .ref q4, .ref q5, .ref q6, .ref q7, .ref q8, .int 0, .int 0, .ref q9, .int 0, .int 0, .ref q10, .ref q11, .int 0, .ref q12, .ref q13, .ref q14, .ref q15, .ref q16, .int 0, .ref q17, .int 0, .ref q18, .ref q19, .int 0, .int 0, .int 0, .int 0, .int (-1), .int 0, .int 0, .ref q20, .ref q21, .ref q22, .int 0, .int 0, .int 0, .ref q23, .int 0, .ref q24, .int 0, .ref q25, .ref q26, .int 0, .int 0, .long 0, .ref q27, .ref q28, .int 0, .int 0, .int 0, .int 0, .int 0, .ref q29, .ref q30, .null])), (q1, .inl (cI, 52, .inl (fun _ => 0))), (q2, .inl (cI, 120, .inl (fun _ => 0))), (q3, .inl (cI, 10, .inl (fun _ => 0))), (q4, .inl (cI, 10, .inl (fun _ => 0))), (q5, .inl (cI, 10, .inl (fun _ => 0))), (q6, .inl (cI, 10, .inl (fun _ => 0))), (q7, .inl (cI, 10, .inl (fun _ => 0))), (q8, .inl (cI, 10, .inl (fun _ => 0))), (q9, .inl (cI, 120, .inl (fun _ => 0))), (q10, .inl (cI, 8, .inl (fun _ => 0))), (q11, .inl (cI, 8, .inl (fun _ => 0))), (q12, .inl (cI, 32, .inl (fun _ => 0))), (q13, .inl (cI, 32, .inl (fun _ => 0))), (q14, .inl (cI, 32, .inl (fun _ => 0))), (q15, .inl (cI, 32, .inl (fun _ => 0))), (q16, .inl (cI, 32, .inl (fun _ => 0))), (q17, .inl (cI, 10, .inl (fun _ => 0))), (q18, .inl (cI, 10, .inl (fun _ => 0))), (q19, .inl (cI, 10, .inl (fun _ => 0))), (q20, .inl (cI, 4, .inl (fun _ => 0))), (q21, .inl (cI, 4, .inl (fun _ => 0))), (q22, .inl (cI, 4, .inl (fun _ => 0))), (q23, .inl (cI, 10, .inl (fun _ => 0))), (q24, .inl (cI, 20, .inl (fun _ => 0))), (q25, .inl (cI, 20, .inl (fun _ => 0))), (q26, .inl (cI, 8, .inl (fun _ => 0))), (q27, .inl (cI, 20, .inl (fun _ => 0))), (q28, .inl (cL, 200, .inr (.inl (fun _ => 0)))), (q29, .inl (cI, 8, .inl (fun _ => 0))), (q30, .inl (cI, 4, .inl (fun _ => 0))), (q31, .inl (cI, 40, .inl (fun _ => 0)))]) rfl ?_
  refine u_putF (q0 := 0) (ws' := [(h0, .inr (10, [.ref q1, .int 0, .ref q2, .ref q3, .ref q4, .ref q5, .ref q6, .ref q7, .ref q8, .int 0, .int 0, .ref q9, .int 0, .int 0, .ref q10, .ref q11, .int 0, .ref q12, .ref q13, .ref q14, .ref q15, .ref q16, .int 0, .ref q17, .int 0, .ref q18, .ref q19, .int 0, .int 0, .int 0, .int 0, .int (-1), .int 0, .int 0, .ref q20, .ref q21, .ref q22, .int 0, .int 0, .int 0, .ref q23, .int 0, .ref q24, .int 0, .ref q25, .ref q26, .int 0, .int 0, .long 0, .ref q27, .ref q28, .int 0, .int 0, .int 0, .int 0, .int 0, .ref q29, .ref q30, .ref q31])), (q1, .inl (cI, 52, .inl (fun _ => 0))), (q2, .inl (cI, 120, .inl (fun _ => 0))), (q3, .inl (cI, 10, .inl (fun _ => 0))), (q4, .inl (cI, 10, .inl (fun _ => 0))), (q5, .inl (cI, 10, .inl (fun _ => 0))), (q6, .inl (cI, 10, .inl (fun _ => 0))), (q7, .inl (cI, 10, .inl (fun _ => 0))), (q8, .inl (cI, 10, .inl (fun _ => 0))), (q9, .inl (cI, 120, .inl (fun _ => 0))), (q10, .inl (cI, 8, .inl (fun _ => 0))), (q11, .inl (cI, 8, .inl (fun _ => 0))), (q12, .inl (cI, 32, .inl (fun _ => 0))), (q13, .inl (cI, 32, .inl (fun _ => 0))), (q14, .inl (cI, 32, .inl (fun _ => 0))), (q15, .inl (cI, 32, .inl (fun _ => 0))), (q16, .inl (cI, 32, .inl (fun _ => 0))), (q17, .inl (cI, 10, .inl (fun _ => 0))), (q18, .inl (cI, 10, .inl (fun _ => 0))), (q19, .inl (cI, 10, .inl (fun _ => 0))), (q20, .inl (cI, 4, .inl (fun _ => 0))), (q21, .inl (cI, 4, .inl (fun _ => 0))), (q22, .inl (cI, 4, .inl (fun _ => 0))), (q23, .inl (cI, 10, .inl (fun _ => 0))), (q24, .inl (cI, 20, .inl (fun _ => 0))), (q25, .inl (cI, 20, .inl (fun _ => 0))), (q26, .inl (cI, 8, .inl (fun _ => 0))), (q27, .inl (cI, 20, .inl (fun _ => 0))), (q28, .inl (cL, 200, .inr (.inl (fun _ => 0)))), (q29, .inl (cI, 8, .inl (fun _ => 0))), (q30, .inl (cI, 4, .inl (fun _ => 0))), (q31, .inl (cI, 40, .inl (fun _ => 0)))]) O hI dX10_init_251 fo_X10_105 ff_10_58 rfl rfl rfl rfl (Nat.le_of_ble_eq_true rfl) rfl ?_
  refine u_iconst O dX10_init_254 kc_0 ?_
  have lp2 : ∀ k i : Nat, k + i = 40 → Uj Γ (va_A [(h0, .inr (10, [.null, .int 0, .null, .null, .null, .null, .null, .null, .null, .int 0, .int 0, .null, .int 0, .int 0, .null, .null, .int 0, .null, .null, .null, .null, .null, .int 0, .null, .int 0, .null, .null, .int 0, .int 0, .int 0, .int 0, .int 0, .int 0, .int 0, .null, .null, .null, .int 0, .int 0, .int 0, .null, .int 0, .null, .int 0, .null, .null, .int 0, .int 0, .long 0, .null, .null, .int 0, .int 0, .int 0, .int 0, .int 0, .null, .null, .null]))] sz) 277 [(0, .ref h0), (1, .int (nI i))] [] [(h0, .inr (10, [.ref q1, .int 0, .ref q2, .ref q3, .ref q4, .ref q5, .ref q6, .ref q7, .ref q8, .int 0, .int 0, .ref q9, .int 0, .int 0, .ref q10, .ref q11, .int 0, .ref q12, .ref q13, .ref q14, .ref q15, .ref q16, .int 0, .ref q17, .int 0, .ref q18, .ref q19, .int 0, .int 0, .int 0, .int 0, .int (-1), .int 0, .int 0, .ref q20, .ref q21, .ref q22, .int 0, .int 0, .int 0, .ref q23, .int 0, .ref q24, .int 0, .ref q25, .ref q26, .int 0, .int 0, .long 0, .ref q27, .ref q28, .int 0, .int 0, .int 0, .int 0, .int 0, .ref q29, .ref q30, .ref q31])), (q1, .inl (cI, 52, .inl (fillN 52 5 (fun _ => 0)))), (q2, .inl (cI, 120, .inl (fun _ => 0))), (q3, .inl (cI, 10, .inl (fun _ => 0))), (q4, .inl (cI, 10, .inl (fun _ => 0))), (q5, .inl (cI, 10, .inl (fun _ => 0))), (q6, .inl (cI, 10, .inl (fun _ => 0))), (q7, .inl (cI, 10, .inl (fun _ => 0))), (q8, .inl (cI, 10, .inl (fun _ => 0))), (q9, .inl (cI, 120, .inl (fun _ => 0))), (q10, .inl (cI, 8, .inl (fun _ => 0))), (q11, .inl (cI, 8, .inl (fun _ => 0))), (q12, .inl (cI, 32, .inl (fun _ => 0))), (q13, .inl (cI, 32, .inl (fun _ => 0))), (q14, .inl (cI, 32, .inl (fun _ => 0))), (q15, .inl (cI, 32, .inl (fun _ => 0))), (q16, .inl (cI, 32, .inl (fun _ => 0))), (q17, .inl (cI, 10, .inl (fun _ => 0))), (q18, .inl (cI, 10, .inl (fun _ => 0))), (q19, .inl (cI, 10, .inl (fun _ => 0))), (q20, .inl (cI, 4, .inl (fun _ => 0))), (q21, .inl (cI, 4, .inl (fun _ => 0))), (q22, .inl (cI, 4, .inl (fun _ => 0))), (q23, .inl (cI, 10, .inl (fun _ => 0))), (q24, .inl (cI, 20, .inl (fun _ => 0))), (q25, .inl (cI, 20, .inl (fun _ => 0))), (q26, .inl (cI, 8, .inl (fun _ => 0))), (q27, .inl (cI, 20, .inl (fun _ => 0))), (q28, .inl (cL, 200, .inr (.inl (fun _ => 0)))), (q29, .inl (cI, 8, .inl (fun _ => 0))), (q30, .inl (cI, 4, .inl (fun _ => 0))), (q31, .inl (cI, 40, .inl (fillN i (-1) (fun _ => 0))))] 31 900 := by
    intro k
    induction k with
    | zero =>
      intro i hi
      refine u_iload_n O dX10_init_277 rfl 1 rfl ?_
      refine u_bipush O dX10_init_278 kb_40 ?_
      refine u_icmp_ge (tgt := 296) O dX10_init_280 (by decide) (fun g => ?_) (fun g => ?_)
      · have hi : i = 40 := by omega
        subst hi
        exact u_vret O r dX10_init_296 ⟨q1, q2, q3, q4, q5, q6, q7, q8, q9, q10, q11, q12, q13, q14, q15, q16, q17, q18, q19, q20, q21, q22, q23, q24, q25, q26, q27, q28, q29, q30, q31, rfl⟩
      · exact absurd (show (40 : Int32) ≤ nI i from nI_le (a := 40) (by omega) (by omega)) g
    | succ k ih =>
      intro i hi
      refine u_iload_n O dX10_init_277 rfl 1 rfl ?_
      refine u_bipush O dX10_init_278 kb_40 ?_
      refine u_icmp_ge (tgt := 296) O dX10_init_280 (by decide) (fun g => ?_) (fun g => ?_)
      · exact absurd g (nI_ge (b := 40) (by omega) (by omega))
      · refine u_aload_n O dX10_init_283 rfl 0 rfl ?_
        refine u_get (q0 := 0) O dX10_init_284 fo_X10_105 rfl rfl ?_
        refine u_iload_n O dX10_init_287 rfl 1 rfl ?_
        refine u_iconst O dX10_init_288 kc_m1 ?_
        refine u_iast (q0 := 31) (N := 40) (ws' := [(h0, .inr (10, [.ref q1, .int 0, .ref q2, .ref q3, .ref q4, .ref q5, .ref q6, .ref q7, .ref q8, .int 0, .int 0, .ref q9, .int 0, .int 0, .ref q10, .ref q11, .int 0, .ref q12, .ref q13, .ref q14, .ref q15, .ref q16, .int 0, .ref q17, .int 0, .ref q18, .ref q19, .int 0, .int 0, .int 0, .int 0, .int (-1), .int 0, .int 0, .ref q20, .ref q21, .ref q22, .int 0, .int 0, .int 0, .ref q23, .int 0, .ref q24, .int 0, .ref q25, .ref q26, .int 0, .int 0, .long 0, .ref q27, .ref q28, .int 0, .int 0, .int 0, .int 0, .int 0, .ref q29, .ref q30, .ref q31])), (q1, .inl (cI, 52, .inl (fillN 52 5 (fun _ => 0)))), (q2, .inl (cI, 120, .inl (fun _ => 0))), (q3, .inl (cI, 10, .inl (fun _ => 0))), (q4, .inl (cI, 10, .inl (fun _ => 0))), (q5, .inl (cI, 10, .inl (fun _ => 0))), (q6, .inl (cI, 10, .inl (fun _ => 0))), (q7, .inl (cI, 10, .inl (fun _ => 0))), (q8, .inl (cI, 10, .inl (fun _ => 0))), (q9, .inl (cI, 120, .inl (fun _ => 0))), (q10, .inl (cI, 8, .inl (fun _ => 0))), (q11, .inl (cI, 8, .inl (fun _ => 0))), (q12, .inl (cI, 32, .inl (fun _ => 0))), (q13, .inl (cI, 32, .inl (fun _ => 0))), (q14, .inl (cI, 32, .inl (fun _ => 0))), (q15, .inl (cI, 32, .inl (fun _ => 0))), (q16, .inl (cI, 32, .inl (fun _ => 0))), (q17, .inl (cI, 10, .inl (fun _ => 0))), (q18, .inl (cI, 10, .inl (fun _ => 0))), (q19, .inl (cI, 10, .inl (fun _ => 0))), (q20, .inl (cI, 4, .inl (fun _ => 0))), (q21, .inl (cI, 4, .inl (fun _ => 0))), (q22, .inl (cI, 4, .inl (fun _ => 0))), (q23, .inl (cI, 10, .inl (fun _ => 0))), (q24, .inl (cI, 20, .inl (fun _ => 0))), (q25, .inl (cI, 20, .inl (fun _ => 0))), (q26, .inl (cI, 8, .inl (fun _ => 0))), (q27, .inl (cI, 20, .inl (fun _ => 0))), (q28, .inl (cL, 200, .inr (.inl (fun _ => 0)))), (q29, .inl (cI, 8, .inl (fun _ => 0))), (q30, .inl (cI, 4, .inl (fun _ => 0))), (q31, .inl (cI, 40, .inl (fillN (i + 1) (-1) (fun _ => 0))))]) O dX10_init_289 (by rw [eI]; rfl) (vp_in_nI (by omega) (by omega)) (by rw [eI, nI_clamp (by omega), fillN_s]; rfl) ?_
        refine u_iinc (j := 1) (v := nI (i + 1)) (lv' := [(1, .int (nI (i + 1))), (0, .ref h0)]) O dX10_init_290 rfl (by rw [nI_succ]; exact congrArg _ kc_1) (by decide) rfl ?_
        refine u_goto (tgt := 277) O dX10_init_293 (by decide) ?_
        exact u_loc [1, 0] rfl (ih (i + 1) (by omega))
  have lp1 : ∀ k i : Nat, k + i = 52 → Uj Γ (va_A [(h0, .inr (10, [.null, .int 0, .null, .null, .null, .null, .null, .null, .null, .int 0, .int 0, .null, .int 0, .int 0, .null, .null, .int 0, .null, .null, .null, .null, .null, .int 0, .null, .int 0, .null, .null, .int 0, .int 0, .int 0, .int 0, .int 0, .int 0, .int 0, .null, .null, .null, .int 0, .int 0, .int 0, .null, .int 0, .null, .int 0, .null, .null, .int 0, .int 0, .long 0, .null, .null, .int 0, .int 0, .int 0, .int 0, .int 0, .null, .null, .null]))] sz) 256 [(0, .ref h0), (1, .int (nI i))] [] [(h0, .inr (10, [.ref q1, .int 0, .ref q2, .ref q3, .ref q4, .ref q5, .ref q6, .ref q7, .ref q8, .int 0, .int 0, .ref q9, .int 0, .int 0, .ref q10, .ref q11, .int 0, .ref q12, .ref q13, .ref q14, .ref q15, .ref q16, .int 0, .ref q17, .int 0, .ref q18, .ref q19, .int 0, .int 0, .int 0, .int 0, .int (-1), .int 0, .int 0, .ref q20, .ref q21, .ref q22, .int 0, .int 0, .int 0, .ref q23, .int 0, .ref q24, .int 0, .ref q25, .ref q26, .int 0, .int 0, .long 0, .ref q27, .ref q28, .int 0, .int 0, .int 0, .int 0, .int 0, .ref q29, .ref q30, .ref q31])), (q1, .inl (cI, 52, .inl (fillN i 5 (fun _ => 0)))), (q2, .inl (cI, 120, .inl (fun _ => 0))), (q3, .inl (cI, 10, .inl (fun _ => 0))), (q4, .inl (cI, 10, .inl (fun _ => 0))), (q5, .inl (cI, 10, .inl (fun _ => 0))), (q6, .inl (cI, 10, .inl (fun _ => 0))), (q7, .inl (cI, 10, .inl (fun _ => 0))), (q8, .inl (cI, 10, .inl (fun _ => 0))), (q9, .inl (cI, 120, .inl (fun _ => 0))), (q10, .inl (cI, 8, .inl (fun _ => 0))), (q11, .inl (cI, 8, .inl (fun _ => 0))), (q12, .inl (cI, 32, .inl (fun _ => 0))), (q13, .inl (cI, 32, .inl (fun _ => 0))), (q14, .inl (cI, 32, .inl (fun _ => 0))), (q15, .inl (cI, 32, .inl (fun _ => 0))), (q16, .inl (cI, 32, .inl (fun _ => 0))), (q17, .inl (cI, 10, .inl (fun _ => 0))), (q18, .inl (cI, 10, .inl (fun _ => 0))), (q19, .inl (cI, 10, .inl (fun _ => 0))), (q20, .inl (cI, 4, .inl (fun _ => 0))), (q21, .inl (cI, 4, .inl (fun _ => 0))), (q22, .inl (cI, 4, .inl (fun _ => 0))), (q23, .inl (cI, 10, .inl (fun _ => 0))), (q24, .inl (cI, 20, .inl (fun _ => 0))), (q25, .inl (cI, 20, .inl (fun _ => 0))), (q26, .inl (cI, 8, .inl (fun _ => 0))), (q27, .inl (cI, 20, .inl (fun _ => 0))), (q28, .inl (cL, 200, .inr (.inl (fun _ => 0)))), (q29, .inl (cI, 8, .inl (fun _ => 0))), (q30, .inl (cI, 4, .inl (fun _ => 0))), (q31, .inl (cI, 40, .inl (fun _ => 0)))] 31 900 := by
    intro k
    induction k with
    | zero =>
      intro i hi
      refine u_iload_n O dX10_init_256 rfl 1 rfl ?_
      refine u_bipush O dX10_init_257 kb_52 ?_
      refine u_icmp_ge (tgt := 275) O dX10_init_259 (by decide) (fun g => ?_) (fun g => ?_)
      · have hi : i = 52 := by omega
        subst hi
        refine u_iconst O dX10_init_275 kc_0 ?_
        refine u_istore_n (lv' := [(1, .int (nI 0)), (0, .ref h0)]) O dX10_init_276 rfl (by decide) rfl ?_
        refine u_eq (ws' := [(h0, .inr (10, [.ref q1, .int 0, .ref q2, .ref q3, .ref q4, .ref q5, .ref q6, .ref q7, .ref q8, .int 0, .int 0, .ref q9, .int 0, .int 0, .ref q10, .ref q11, .int 0, .ref q12, .ref q13, .ref q14, .ref q15, .ref q16, .int 0, .ref q17, .int 0, .ref q18, .ref q19, .int 0, .int 0, .int 0, .int 0, .int (-1), .int 0, .int 0, .ref q20, .ref q21, .ref q22, .int 0, .int 0, .int 0, .ref q23, .int 0, .ref q24, .int 0, .ref q25, .ref q26, .int 0, .int 0, .long 0, .ref q27, .ref q28, .int 0, .int 0, .int 0, .int 0, .int 0, .ref q29, .ref q30, .ref q31])), (q1, .inl (cI, 52, .inl (fillN 52 5 (fun _ => 0)))), (q2, .inl (cI, 120, .inl (fun _ => 0))), (q3, .inl (cI, 10, .inl (fun _ => 0))), (q4, .inl (cI, 10, .inl (fun _ => 0))), (q5, .inl (cI, 10, .inl (fun _ => 0))), (q6, .inl (cI, 10, .inl (fun _ => 0))), (q7, .inl (cI, 10, .inl (fun _ => 0))), (q8, .inl (cI, 10, .inl (fun _ => 0))), (q9, .inl (cI, 120, .inl (fun _ => 0))), (q10, .inl (cI, 8, .inl (fun _ => 0))), (q11, .inl (cI, 8, .inl (fun _ => 0))), (q12, .inl (cI, 32, .inl (fun _ => 0))), (q13, .inl (cI, 32, .inl (fun _ => 0))), (q14, .inl (cI, 32, .inl (fun _ => 0))), (q15, .inl (cI, 32, .inl (fun _ => 0))), (q16, .inl (cI, 32, .inl (fun _ => 0))), (q17, .inl (cI, 10, .inl (fun _ => 0))), (q18, .inl (cI, 10, .inl (fun _ => 0))), (q19, .inl (cI, 10, .inl (fun _ => 0))), (q20, .inl (cI, 4, .inl (fun _ => 0))), (q21, .inl (cI, 4, .inl (fun _ => 0))), (q22, .inl (cI, 4, .inl (fun _ => 0))), (q23, .inl (cI, 10, .inl (fun _ => 0))), (q24, .inl (cI, 20, .inl (fun _ => 0))), (q25, .inl (cI, 20, .inl (fun _ => 0))), (q26, .inl (cI, 8, .inl (fun _ => 0))), (q27, .inl (cI, 20, .inl (fun _ => 0))), (q28, .inl (cL, 200, .inr (.inl (fun _ => 0)))), (q29, .inl (cI, 8, .inl (fun _ => 0))), (q30, .inl (cI, 4, .inl (fun _ => 0))), (q31, .inl (cI, 40, .inl (fillN 0 (-1) (fun _ => 0))))]) (by rw [fillN_0]) ?_
        exact u_loc [1, 0] rfl (lp2 40 0 rfl)
      · exact absurd (show (52 : Int32) ≤ nI i from nI_le (a := 52) (by omega) (by omega)) g
    | succ k ih =>
      intro i hi
      refine u_iload_n O dX10_init_256 rfl 1 rfl ?_
      refine u_bipush O dX10_init_257 kb_52 ?_
      refine u_icmp_ge (tgt := 275) O dX10_init_259 (by decide) (fun g => ?_) (fun g => ?_)
      · exact absurd g (nI_ge (b := 52) (by omega) (by omega))
      · refine u_aload_n O dX10_init_262 rfl 0 rfl ?_
        refine u_get (q0 := 0) O dX10_init_263 fo_X10_7 rfl rfl ?_
        refine u_iload_n O dX10_init_266 rfl 1 rfl ?_
        refine u_iconst O dX10_init_267 kc_5 ?_
        refine u_iast (q0 := 1) (N := 52) (ws' := [(h0, .inr (10, [.ref q1, .int 0, .ref q2, .ref q3, .ref q4, .ref q5, .ref q6, .ref q7, .ref q8, .int 0, .int 0, .ref q9, .int 0, .int 0, .ref q10, .ref q11, .int 0, .ref q12, .ref q13, .ref q14, .ref q15, .ref q16, .int 0, .ref q17, .int 0, .ref q18, .ref q19, .int 0, .int 0, .int 0, .int 0, .int (-1), .int 0, .int 0, .ref q20, .ref q21, .ref q22, .int 0, .int 0, .int 0, .ref q23, .int 0, .ref q24, .int 0, .ref q25, .ref q26, .int 0, .int 0, .long 0, .ref q27, .ref q28, .int 0, .int 0, .int 0, .int 0, .int 0, .ref q29, .ref q30, .ref q31])), (q1, .inl (cI, 52, .inl (fillN (i + 1) 5 (fun _ => 0)))), (q2, .inl (cI, 120, .inl (fun _ => 0))), (q3, .inl (cI, 10, .inl (fun _ => 0))), (q4, .inl (cI, 10, .inl (fun _ => 0))), (q5, .inl (cI, 10, .inl (fun _ => 0))), (q6, .inl (cI, 10, .inl (fun _ => 0))), (q7, .inl (cI, 10, .inl (fun _ => 0))), (q8, .inl (cI, 10, .inl (fun _ => 0))), (q9, .inl (cI, 120, .inl (fun _ => 0))), (q10, .inl (cI, 8, .inl (fun _ => 0))), (q11, .inl (cI, 8, .inl (fun _ => 0))), (q12, .inl (cI, 32, .inl (fun _ => 0))), (q13, .inl (cI, 32, .inl (fun _ => 0))), (q14, .inl (cI, 32, .inl (fun _ => 0))), (q15, .inl (cI, 32, .inl (fun _ => 0))), (q16, .inl (cI, 32, .inl (fun _ => 0))), (q17, .inl (cI, 10, .inl (fun _ => 0))), (q18, .inl (cI, 10, .inl (fun _ => 0))), (q19, .inl (cI, 10, .inl (fun _ => 0))), (q20, .inl (cI, 4, .inl (fun _ => 0))), (q21, .inl (cI, 4, .inl (fun _ => 0))), (q22, .inl (cI, 4, .inl (fun _ => 0))), (q23, .inl (cI, 10, .inl (fun _ => 0))), (q24, .inl (cI, 20, .inl (fun _ => 0))), (q25, .inl (cI, 20, .inl (fun _ => 0))), (q26, .inl (cI, 8, .inl (fun _ => 0))), (q27, .inl (cI, 20, .inl (fun _ => 0))), (q28, .inl (cL, 200, .inr (.inl (fun _ => 0)))), (q29, .inl (cI, 8, .inl (fun _ => 0))), (q30, .inl (cI, 4, .inl (fun _ => 0))), (q31, .inl (cI, 40, .inl (fun _ => 0)))]) O dX10_init_268 (by rw [eI]; rfl) (vp_in_nI (by omega) (by omega)) (by rw [eI, nI_clamp (by omega), fillN_s]; rfl) ?_
        refine u_iinc (j := 1) (v := nI (i + 1)) (lv' := [(1, .int (nI (i + 1))), (0, .ref h0)]) O dX10_init_269 rfl (by rw [nI_succ]; exact congrArg _ kc_1) (by decide) rfl ?_
        refine u_goto (tgt := 256) O dX10_init_272 (by decide) ?_
        exact u_loc [1, 0] rfl (ih (i + 1) (by omega))
  refine u_istore_n (lv' := [(1, .int (nI 0)), (0, .ref h0)]) O dX10_init_255 rfl (by decide) rfl ?_
  refine u_eq (ws' := [(h0, .inr (10, [.ref q1, .int 0, .ref q2, .ref q3, .ref q4, .ref q5, .ref q6, .ref q7, .ref q8, .int 0, .int 0, .ref q9, .int 0, .int 0, .ref q10, .ref q11, .int 0, .ref q12, .ref q13, .ref q14, .ref q15, .ref q16, .int 0, .ref q17, .int 0, .ref q18, .ref q19, .int 0, .int 0, .int 0, .int 0, .int (-1), .int 0, .int 0, .ref q20, .ref q21, .ref q22, .int 0, .int 0, .int 0, .ref q23, .int 0, .ref q24, .int 0, .ref q25, .ref q26, .int 0, .int 0, .long 0, .ref q27, .ref q28, .int 0, .int 0, .int 0, .int 0, .int 0, .ref q29, .ref q30, .ref q31])), (q1, .inl (cI, 52, .inl (fillN 0 5 (fun _ => 0)))), (q2, .inl (cI, 120, .inl (fun _ => 0))), (q3, .inl (cI, 10, .inl (fun _ => 0))), (q4, .inl (cI, 10, .inl (fun _ => 0))), (q5, .inl (cI, 10, .inl (fun _ => 0))), (q6, .inl (cI, 10, .inl (fun _ => 0))), (q7, .inl (cI, 10, .inl (fun _ => 0))), (q8, .inl (cI, 10, .inl (fun _ => 0))), (q9, .inl (cI, 120, .inl (fun _ => 0))), (q10, .inl (cI, 8, .inl (fun _ => 0))), (q11, .inl (cI, 8, .inl (fun _ => 0))), (q12, .inl (cI, 32, .inl (fun _ => 0))), (q13, .inl (cI, 32, .inl (fun _ => 0))), (q14, .inl (cI, 32, .inl (fun _ => 0))), (q15, .inl (cI, 32, .inl (fun _ => 0))), (q16, .inl (cI, 32, .inl (fun _ => 0))), (q17, .inl (cI, 10, .inl (fun _ => 0))), (q18, .inl (cI, 10, .inl (fun _ => 0))), (q19, .inl (cI, 10, .inl (fun _ => 0))), (q20, .inl (cI, 4, .inl (fun _ => 0))), (q21, .inl (cI, 4, .inl (fun _ => 0))), (q22, .inl (cI, 4, .inl (fun _ => 0))), (q23, .inl (cI, 10, .inl (fun _ => 0))), (q24, .inl (cI, 20, .inl (fun _ => 0))), (q25, .inl (cI, 20, .inl (fun _ => 0))), (q26, .inl (cI, 8, .inl (fun _ => 0))), (q27, .inl (cI, 20, .inl (fun _ => 0))), (q28, .inl (cL, 200, .inr (.inl (fun _ => 0)))), (q29, .inl (cI, 8, .inl (fun _ => 0))), (q30, .inl (cI, 4, .inl (fun _ => 0))), (q31, .inl (cI, 40, .inl (fun _ => 0)))]) (by rw [fillN_0]) ?_
  exact u_loc [1, 0] rfl (lp1 52 0 rfl)
