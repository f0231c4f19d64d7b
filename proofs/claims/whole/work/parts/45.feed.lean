/-! feed: the same bytes on both sides -/
def byC (x : Int64) (k : Nat) : Int32 := (((x.toUInt64 >>> ((nI k * 8).toInt64.toUInt64 &&& Int64.toUInt64 63)).toInt64).toInt32) &&& 255
def byM (x : Int64) (k : Nat) : Int32 := ((x >>> ((8 * nI k).toInt64 &&& 63)) &&& (255 : Int64)).toInt32
theorem b255 : ∀ i, i < 32 → 8 ≤ i → (255#32).getLsbD i = false := by decide
theorem by_aux (x : Int64) (n : Nat) (hn : n ≤ 56) (u : UInt64) (v : Int64) (hu : (u.toBitVec % 64#64).toNat = n) (hv : (v.toBitVec.smod 64#64).toNat = n) : ((x.toUInt64 >>> u).toInt64).toInt32 &&& 255 = ((x >>> v) &&& (255 : Int64)).toInt32 := by
  apply Int32.toBitVec.inj
  simp
  have hu' : u.toNat % 64 = n := by simpa using hu
  rw [hu', hv]
  apply BitVec.eq_of_getLsbD_eq
  intro i hi
  by_cases h8 : i < 8
  · have h1 : n + i < 64 := by omega
    have h2 : i < 64 := by omega
    have h3 : ¬ 64 ≤ i := by omega
    rw [BitVec.getLsbD_and, BitVec.getLsbD_and, BitVec.getLsbD_signExtend, BitVec.getLsbD_signExtend, if_pos h2, if_pos h2, BitVec.getLsbD_ushiftRight, BitVec.getLsbD_sshiftRight]
    simp [h1, h3]
  · have h4 := b255 i hi (by omega)
    simp [BitVec.getLsbD_and, h4]
theorem by_eq (x : Int64) (k : Nat) (hk : k < 8) : byC x k = byM x k := by
  unfold byC byM
  refine by_aux x (8 * k) (by omega) _ _ ?_ ?_
  · have : ∀ k, k < 8 → (((nI k * 8).toInt64.toUInt64 &&& Int64.toUInt64 63).toBitVec % 64#64).toNat = 8 * k := by decide +kernel
    exact this k hk
  · have : ∀ k, k < 8 → (((8 * nI k).toInt64 &&& 63).toBitVec.smod 64#64).toNat = 8 * k := by decide +kernel
    exact this k hk
theorem by_small (x : Int64) (k : Nat) : ∃ c, c < 256 ∧ byC x k = nI c := by
  obtain ⟨j, hj, e⟩ := pk_andE (((x.toUInt64 >>> ((nI k * 8).toInt64.toUInt64 &&& Int64.toUInt64 63)).toInt64).toInt32) (m := 255) 8 (by decide)
  exact ⟨j, hj, e⟩
theorem addm1 (x : Int32) : x + (-1) = x - 1 := by grind
/-- k bytes more behind t -/
def fd (x : Int64) : Nat → (Nat → Int32) → Nat → (Nat → Int32)
  | 0, b, _ => b
  | k + 1, b, t => fd x k (upd b t (byC x k)) (t + 1)
theorem fd_small (x : Int64) : ∀ k b t, (∀ j, ∃ c, c < 256 ∧ b j = nI c) → ∀ j, ∃ c, c < 256 ∧ fd x k b t j = nI c
  | 0, b, t, h => h
  | k + 1, b, t, h => fd_small x k _ (t + 1) (all_upd (P := fun z => ∃ c, c < 256 ∧ z = nI c) h (by_small x k))
section FEED
variable {X : XT} {Y : YT} {Q : Int32 → XT → YT → Prop} {QV : XT → YT → Prop} {K : XT → YT → Prop}
theorem eq_append {v : Int32} {t : Nat} (ht : t < 120) (h : X 1 1 = nI t) : PX8_append v X Y QV = QV (sX (sX X 2 t v) 1 1 (nI (t + 1))) Y := by
  apply propext
  unfold PX8_append BX8_append_s
  rw [h, show (120 : Int32) = nI 120 from rfl, le_nI (by omega) (by omega), cl_nI (by omega), sX_ne (show (1 : Nat) ≠ 2 by decide), h, nI_1]
  constructor
  · intro g
    exact (g.2 (by omega)).2 _ rfl
  · intro g
    exact ⟨fun g2 => absurd g2 (by omega), fun _ => ⟨vp_in_nI ht (by omega), fun X2 e => by rw [e]; exact g⟩⟩
theorem st_add {X : XT} {q p i t k : Nat} {b : Nat → Int32} {v w w' : Int32} (hqp : q ≠ p) : sX (sX (sX (setc X q b) p i w) q t v) p i w' = sX (setc X q (upd b t v)) p i w' := by
  funext a
  by_cases h1 : a = p
  · subst h1
    rw [sX_eq, sX_ne (Ne.symm hqp), sX_eq, upd_upd, sX_eq, setc_ne (Ne.symm hqp), setc_ne (Ne.symm hqp)]
  · rw [sX_ne h1, sX_ne h1]
    by_cases h2 : a = q
    · subst h2
      rw [sX_eq, sX_ne hqp, setc_eq, setc_eq]
    · rw [sX_ne h2, sX_ne h1, setc_ne h2, setc_ne h2]
theorem st_0 {X : XT} {q p i : Nat} (hqp : q ≠ p) : X = sX (setc X q (X q)) p i (X p i) := by
  funext a
  by_cases h1 : a = p
  · subst h1
    rw [sX_eq, setc_ne (Ne.symm hqp), upd_same]
  · rw [sX_ne h1]
    by_cases h2 : a = q
    · subst h2
      rw [setc_eq]
    · rw [setc_ne h2]
theorem m1 (k : Nat) : nI (k + 1) + (-1) = nI k := pk_m1 k
theorem s_feedC {x : Int64} {n t : Nat} (h1 : 1 ≤ n) (h8 : n ≤ 8) (ht : t ≤ 120) (h : X 1 1 = nI t) (hq : (t + n ≤ 120 → Q (nI (t + n)) (sX (setc X 2 (fd x n (X 2) t)) 1 1 (nI (t + n))) Y) ∧ (¬ t + n ≤ 120 → Q (-1004) X Y)) : PX9_feed (nI n) x X Y Q := by
  intro I37 h37
  unfold BX9_feed_s
  rw [eq_within]
  simp only [bI_0, Classical.not_not]
  have hin : (1 : Int32) ≤ nI n ∧ nI n ≤ 8 := by
    rw [show (1 : Int32) = nI 1 from rfl, show (8 : Int32) = nI 8 from rfl, le_nI (by omega) (by omega), le_nI (by omega) (by omega)]
    omega
  refine ⟨fun _ => ?_, fun g => absurd hin g⟩
  rw [h, nI_add, show (120 : Int32) = nI 120 from rfl, le_nI (by omega) (by omega)]
  refine ⟨fun g w hw => ?_, hq.2⟩
  have hq := hq.1 g
  have key : ∀ k b t', k + t' = n + t → (Q (nI (t + n)) (sX (setc X 2 (fd x k b t')) 1 1 (nI (t + n))) Y) → I37 x (nI k - 1) (sX (setc X 2 b) 1 1 (nI t')) Y := by
    intro k
    induction k with
    | zero =>
      intro b t' hk hq
      apply h37
      unfold BX9_feed_37
      refine ⟨fun _ => ?_, fun g => absurd (by decide) g⟩
      rw [sX_eq]
      unfold upd
      rw [if_pos rfl, show t' = t + n by omega]
      exact hq
    | succ k ih =>
      intro b t' hk hq
      apply h37
      unfold BX9_feed_37
      rw [nI_pred]
      refine ⟨fun g => absurd g (nI_pos (by omega)), fun _ => ?_⟩
      rw [eq_append (t := t') (by omega) (by rw [sX_eq]; simp [upd])]
      intro w hw
      rw [hw, addm1, st_add (k := k) (by decide)]
      exact ih _ (t' + 1) (by omega) hq
  rw [hw]
  have e := st_0 (X := X) (q := 2) (p := 1) (i := 1) (by decide)
  rw [h] at e
  rw [show (nI n - 1) = nI n - 1 from rfl]
  have := key n (X 2) t (by omega) hq
  rw [← e] at this
  exact this
theorem s_feedM {x : Int64} {n t : Nat} (h1 : 1 ≤ n) (h8 : n ≤ 8) (ht : t ≤ 120) (h : X 48 12 = nI t) (hq : (t + n ≤ 120 → Q (nI (t + n)) (sX (setc X 57 (fd x n (X 57) t)) 48 12 (nI (t + n))) Y) ∧ (¬ t + n ≤ 120 → Q (-1004) X Y)) : PX10_feed (nI n) x X Y Q := by
  intro I36 h36
  unfold BX10_feed_s
  rw [l64_1, l64_8, eq_in3]
  simp only [bI_0, Classical.not_not]
  have hin : (1 : Int32) ≤ nI n ∧ nI n ≤ 8 := by
    rw [show (1 : Int32) = nI 1 from rfl, show (8 : Int32) = nI 8 from rfl, le_nI (by omega) (by omega), le_nI (by omega) (by omega)]
    omega
  refine ⟨fun _ => ?_, fun g => absurd hin g⟩
  rw [h, nI_add, show (120 : Int32) = nI 120 from rfl, le_nI (by omega) (by omega)]
  refine ⟨fun g w hw => ?_, hq.2⟩
  have hq := hq.1 g
  have key : ∀ k b t', k ≤ 8 → k + t' = n + t → (Q (nI (t + n)) (sX (setc X 57 (fd x k b t')) 48 12 (nI (t + n))) Y) → I36 x (nI k - 1) (sX (setc X 57 b) 48 12 (nI t')) Y := by
    intro k
    induction k with
    | zero =>
      intro b t' _ hk hq
      apply h36
      unfold BX10_feed_36
      refine ⟨fun _ => ?_, fun g => absurd (by decide) g⟩
      rw [sX_eq]
      unfold upd
      rw [if_pos rfl, show t' = t + n by omega]
      exact hq
    | succ k ih =>
      intro b t' hk8 hk hq
      apply h36
      unfold BX10_feed_36
      rw [nI_pred]
      refine ⟨fun g => absurd g (nI_pos (by omega)), fun _ => ?_⟩
      have ev : sX (setc X 57 b) 48 12 (nI t') 48 12 = nI t' := by rw [sX_eq]; simp [upd]
      rw [ev, cl_nI (by omega)]
      refine ⟨vp_in_nI (by omega) (by omega), fun X2 hX2 w hw => ?_⟩
      have e2 : X2 48 12 = nI t' := by rw [hX2, sX_ne (by decide), ev]
      rw [hw, addm1, e2, nI_1, hX2, st_add (k := k) (by decide)]
      have hb : ((x >>> ((8 * nI k).toInt64 &&& 63)) &&& (255 : Int64)).toInt32 = byC x k := (by_eq x k (by omega)).symm
      rw [hb]
      exact ih _ (t' + 1) (by omega) (by omega) hq
  rw [hw]
  have e := st_0 (X := X) (q := 57) (p := 48) (i := 12) (by decide)
  rw [h] at e
  have := key n (X 57) t h8 (by omega) hq
  rw [← e] at this
  exact this
theorem pr_feed {a : Int32} {x : Int64} (h : Inv X) (hK : ∀ X2, Inv X2 → K X2 Y) : PX9_feed a x X Y (fun r X1 Y1 => PX10_feed a x X1 Y1 (Kq K r)) := by
  obtain ⟨hS, hk, hF, hT, hN, hA, hV, hP, hW, hR⟩ := id h
  obtain ⟨t1, t2, ⟨t, t3, t4⟩, t5⟩ := id hT
  by_cases h1 : 1 ≤ a ∧ a ≤ 8
  · obtain ⟨n, hn1, hn, rfl⟩ := in_rng (a := 1) (b := 8) (by omega) (by omega) h1
    refine s_feedC hn1 hn t3 (t1.trans t4) ⟨fun g => ?_, fun g => ?_⟩
    · refine s_feedM (t := t) hn1 hn t3 t4 ⟨fun _ => kq rfl (hK _ ?_), fun g2 => absurd g g2⟩
      refine ⟨hS, hk, hF, ⟨rfl, ?_, ⟨t + n, g, rfl⟩, ?_⟩, hN, hA, hV, hP, hW, hR⟩
      · show fd x n (X 2) t = fd x n (X 57) t
        rw [t2]
      · exact fd_small x n (X 57) t t5
    · exact s_feedM (t := t) hn1 hn t3 t4 ⟨fun g2 => absurd g2 g, fun _ => kq rfl (hK _ h)⟩
  · intro I37 h37
    unfold BX9_feed_s
    rw [eq_within]
    simp only [bI_0, Classical.not_not]
    refine ⟨fun g => absurd g h1, fun _ => ?_⟩
    intro I36 h36
    unfold BX10_feed_s
    rw [l64_1, l64_8, eq_in3]
    simp only [bI_0, Classical.not_not]
    exact ⟨fun g => absurd g h1, fun _ => kq rfl (hK _ h)⟩
end FEED
