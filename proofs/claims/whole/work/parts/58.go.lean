/-! go -/
def fuel0 : Nat := 70000
theorem fuel0_gt : 60021 < fuel0 := by decide
def srch (m N w : Nat) (ok : Nat → (Nat → Nat) → Nat → Bool) : Bool × List (Nat → Nat) := if m = 0 then (false, [fun _ => 0]) else (run m N w ok fuel0 0 (fun _ => 0) 0 []).getD (false, [])
theorem srch_run {m N w : Nat} {ok : Nat → (Nat → Nat) → Nat → Bool} (hm : m ≤ 18) (h0 : 0 < m) : run m N w ok fuel0 0 (fun _ => 0) 0 [] = some (srch m N w ok) := by
  obtain ⟨res, e⟩ := run_ends (m := m) (N := N) (w := w) (ok := ok) hm fuel0 0 (fun _ => 0) 0 [] h0 (by omega) (by have := fuel0_gt; omega)
  unfold srch
  rw [if_neg (by omega), e]
  rfl
theorem St.init {m N w : Nat} (h0 : 0 < m) : St m N w 0 (fun _ => 0) 0 [] := ⟨h0, by omega, by simp, by simp, fun j hj => absurd hj (by omega), Nat.zero_le _, fun r hr => by cases hr⟩
theorem ex_n (p : Nat → Bool) (N : Nat) : ∀ d i, i + d = N → ∃ n, i ≤ n ∧ n ≤ N ∧ (∀ j, i ≤ j → j < n → p j = false) ∧ (n < N → p n = true)
  | 0, i, h => ⟨i, by omega, by omega, fun j h1 h2 => absurd h2 (by omega), fun h2 => absurd h2 (by omega)⟩
  | d + 1, i, h => by
    cases hp : p i with
    | true => exact ⟨i, by omega, by omega, fun j h1 h2 => absurd h2 (by omega), fun _ => hp⟩
    | false =>
      obtain ⟨n, h1, h2, h3, h4⟩ := ex_n p N d (i + 1) (by omega)
      refine ⟨n, by omega, h2, fun j j1 j2 => ?_, h4⟩
      by_cases e : j = i
      · rw [e]
        exact hp
      · exact h3 j (by omega) j2
section GO2
variable {Z B X : XT} {Y : YT} {Q : Int32 → XT → YT → Prop} {QV : XT → YT → Prop} {m w : Nat} {pg al : Nat → Nat} {tw : Nat → Nat → Bool}
theorem go_run (h : Inv Z) (ch : CH Z m pg al tw B) (hw : w < 2147483648) {I52 : Int32 → Int32 → Int32 → XT → YT → Prop} (h52 : ∀ a1 a2 a3 X Y, BX5_go_52 I52 QV a1 a2 a3 X Y → I52 a1 a2 a3 X Y) {L : Bool} {rs' : List (Nat → Nat)} (hq : ∀ U V, EndC Z m w B L rs' U V → QV U V) : ∀ F f, f ≤ F → ∀ k a t rs st X Y, St m (dN Z) w k a t rs → SC Z m pg al tw B k a t rs X Y → st + k ≤ 2 * t → run m (dN Z) w (okS pg al (cl Z 56) tw) f k a t rs = some (L, rs') → I52 (nI w) (nI k) (nI st) X Y := by
  intro F
  induction F with
  | zero =>
    intro f hf k a t rs st X Y _ _ _ hr
    have : f = 0 := by omega
    subst this
    cases hr
  | succ F ih =>
    intro f hf k a t rs st X Y hst hsc hstep hr
    have hm := ch.2.1
    have hN := i_N h
    obtain ⟨p1, p2, p3, p4, p5, p6, p7⟩ := id hst
    obtain ⟨s1, s2, s3, s4, s5, s6, s7, s8, s9, s10, s11, s12⟩ := id hsc
    apply h52
    unfold BX5_go_52
    rw [show (100000 : Int32) = nI 100000 from rfl, le_nI (by omega) (by omega), s4, s12.1, i_lt (a := nI w), le_nI (by omega) (by omega)]
    refine ⟨fun z => absurd z (by omega), fun _ => ⟨fun z => absurd z (nI_pos (by omega)), fun _ => ⟨fun z => absurd rfl z, fun _ => ⟨fun z => absurd (by omega) z, fun _ => ?_⟩⟩⟩⟩
    obtain ⟨n, n1, n2, n3, n4⟩ := ex_n (fun i => okS pg al (cl Z 56) tw k a i) (dN Z) (dN Z - a k) (a k) (by omega)
    have skip := run_skip (m := m) (N := dN Z) (w := w) (k := k) (rs := rs) (okS_congr (pg := pg) (al := al) (nv := cl Z 56) (tw := tw)) (n - a k) f a t (by omega) (fun i hi => n3 (a k + i) (by omega) (by omega)) p2 hr
    rw [show a k + (n - a k) = n by omega] at skip
    -- the end with too many tries
    have large : L = true → rs' = rs → ∀ U, (∀ q, q ≠ 39 → q ≠ 43 → U q = X q) → U 39 11 = 1 → ∀ w9 : Int32, w9 = nI st + 1 → I52 (nI w) (nI k) w9 U Y := by
      intro hL hrs U u1 u2 w9 hw9
      subst hL hrs
      apply h52
      unfold BX5_go_52
      have e : QV U Y := hq U Y ⟨fun q hq => by rw [u1 q (by omega) (by omega)]; exact s1 q hq, by rw [u1 40 (by decide) (by decide)]; exact s2, u2, s12.congr (u1 40 (by decide) (by decide)) (u1 41 (by decide) (by decide)) rfl, fun z => absurd z (by omega)⟩
      rw [u2]
      exact ⟨fun _ => e, fun _ => ⟨fun _ => e, fun _ => ⟨fun _ => e, fun z => absurd z (by decide)⟩⟩⟩
    refine s_tryOn h ch hst hsc n1 n2 n3 n4 (fun z => ?_) (fun z hn => ?_) (fun z hn hk => ?_) (fun z hn hk => ?_)
    · have hL : (L, rs') = (true, rs) := by
        rcases skip with ⟨-, e⟩ | ⟨e1, f', e2, e3⟩
        · exact e
        · have hn : n < dN Z := by omega
          have ht : t + (n - a k) = 3000 := by omega
          cases f' with
          | zero => cases e3
          | succ f' =>
            unfold run at e3
            rw [nU_eq, if_neg (by omega), if_pos ht] at e3
            cases e3
            rfl
      exact large (by rw [(Prod.mk.inj hL).1]) (Prod.mk.inj hL).2
    · intro U sU w9 hw9
      have emin : min (n + 1) (dN Z) = n := by omega
      rw [emin] at z
      rcases skip with ⟨e1, -⟩ | ⟨e1, f', e2, e3⟩
      · omega
      · cases f' with
        | zero => cases e3
        | succ f' =>
          unfold run at e3
          rw [nU_eq, if_pos (by omega)] at e3
          by_cases hk : k = 0
          · rw [if_pos hk] at e3
            cases e3
            apply h52
            unfold BX5_go_52
            obtain ⟨r1, r2, r3, r4, r5, r6, r7, r8, r9, r10, r11, r12⟩ := sU
            have e : QV U Y := hq U Y ⟨r1, r2, r4, r12, fun z => absurd z (by omega)⟩
            have neg : nI k - 1 < 0 := by rw [hk]; decide
            exact ⟨fun _ => e, fun _ => ⟨fun _ => e, fun z => absurd neg z⟩⟩
          · rw [if_neg hk] at e3
            rw [hw9, nI_1, show (1 : Int32) = nI 1 from rfl, pk_sub (by omega)]
            have st' : St m (dN Z) w k (nU a k n) (t + (n - a k)) rs := ⟨p1, by omega, by omega, p4, fun j hj => by rw [nU_ne (by omega)]; exact p5 j hj, by rw [nU_eq]; omega, p7⟩
            exact ih f' (by omega) (k - 1) _ _ _ _ _ _ (st'.back hk) (sU.less hk) (by omega) e3
    · intro U V sU w9 hw9
      have emin : min (n + 1) (dN Z) = n + 1 := by omega
      rw [emin] at z
      rcases skip with ⟨e1, -⟩ | ⟨e1, f', e2, e3⟩
      · omega
      · cases f' with
        | zero => cases e3
        | succ f' =>
          unfold run at e3
          rw [nU_eq, if_neg (by omega), if_neg (by omega), okS_congr k _ a _ (fun j hj => nU_ne (by omega)), if_pos (n4 hn), if_neg (by omega), nU_nU, show t + (n - a k) + 1 = t + (n + 1 - a k) by omega] at e3
          rw [hw9, nI_1]
          have st' : St m (dN Z) w (k + 1) (nU (nU a k (n + 1)) (k + 1) 0) (t + (n + 1 - a k)) rs := by
            refine ⟨by omega, by omega, by omega, p4, fun j hj => ?_, by rw [nU_eq]; omega, p7⟩
            rw [nU_ne (by omega)]
            by_cases e : j = k
            · rw [e, nU_eq]
              omega
            · rw [nU_ne e]
              exact p5 j (by omega)
          exact ih f' (by omega) (k + 1) _ _ _ _ _ _ st' sU (by omega) e3
    · intro U V sU g42 w9 hw9
      have emin : min (n + 1) (dN Z) = n + 1 := by omega
      rw [emin] at z
      rcases skip with ⟨e1, -⟩ | ⟨e1, f', e2, e3⟩
      · omega
      · cases f' with
        | zero => cases e3
        | succ f' =>
          unfold run at e3
          rw [nU_eq, if_neg (by omega), if_neg (by omega), okS_congr k _ a _ (fun j hj => nU_ne (by omega)), if_pos (n4 hn), if_pos hk, nU_nU, show t + (n - a k) + 1 = t + (n + 1 - a k) by omega] at e3
          rw [hw9, nI_1]
          by_cases hl : rs.length = w
          · rw [if_pos hl] at e3
            cases e3
            apply h52
            unfold BX5_go_52
            obtain ⟨r1, r2, r3, r4, r5, r6, r7, r8, r9, r10, r11, r12⟩ := sU
            have e : QV U V := hq U V ⟨r1, r2, r4, r12, fun _ r rest hr s hs => by cases hr; exact g42 s hs⟩
            have lt : nI w < U 40 1 := by
              rw [r12.1, i_lt, le_nI (by simp; omega) (by omega)]
              simp
              omega
            exact ⟨fun _ => e, fun _ => ⟨fun _ => e, fun _ => ⟨fun _ => e, fun _ => ⟨fun _ => e, fun z => absurd lt z⟩⟩⟩⟩
          · rw [if_neg hl] at e3
            have st' : St m (dN Z) w k (nU a k (n + 1)) (t + (n + 1 - a k)) (nU a k (n + 1) :: rs) := by
              refine ⟨by omega, by omega, by simp; omega, by simp; omega, fun j hj => by rw [nU_ne (by omega)]; exact p5 j hj, by rw [nU_eq]; omega, fun r hr => ?_⟩
              rcases List.mem_cons.mp hr with e | e
              · subst e
                exact hst.rd' hn hk n1
              · exact p7 r e
            exact ih f' (by omega) k _ _ _ _ _ _ st' sU (by omega) e3
theorem s_fill41 (hq : ∀ U : XT, (∀ q, q ≠ 41 → U q = X q) → (∀ j, j < 18 → U 41 j = 0) → QV U Y) : PJ7_fill_53178_41 0 X Y QV := by
  intro I5 h5
  unfold BJ7_fill_53178_41_s
  refine dn (n := 18) (P := fun k => ∀ U : XT, (∀ q, q ≠ 41 → U q = X q) → (∀ j, j < k → U 41 j = 0) → I5 0 (nI k) 18 U Y) ?_ ?_ 0 (by omega) X (fun q _ => rfl) (fun j hj => absurd hj (by omega))
  · intro U g1 g2
    apply h5
    unfold BJ7_fill_53178_41_5
    exact ⟨fun _ => hq U g1 g2, fun g => absurd (by decide) g⟩
  · intro k hk ih U g1 g2
    apply h5
    unfold BJ7_fill_53178_41_5
    rw [show (18 : Int32) = nI 18 from rfl, le_nI (by omega) (by omega)]
    refine ⟨fun g => absurd g (by omega), fun _ => ⟨vp_in_nI (by omega) (by omega), fun w hw => ?_⟩⟩
    rw [hw, nI_1, cl_nI (by omega)]
    refine ih _ (fun q hq => by rw [sX_ne hq]; exact g1 q hq) (fun j hj => ?_)
    rw [sX_eq]
    unfold upd
    by_cases e : j = k
    · rw [if_pos e]
    · rw [if_neg e]
      exact g2 j (by omega)
theorem s_clear (hm : m ≤ 18) (hq : ∀ (U : XT) (V : YT), (∀ q, q ≠ 40 → q ≠ 41 → U q = X q) → (∀ j, j ≠ 1 → j ≠ 2 → U 40 j = X 40 j) → Tal Z m [] U V → QV U V) : PX7_clear X Y QV := by
  unfold PX7_clear BX7_clear_s
  refine s_fill41 (fun U u1 u2 => ?_)
  rw [eq_allBelow]
  intro V hV
  refine hq _ V (fun q h1 h2 => by rw [sX_ne h1, sX_ne h1, u1 q h2]) (fun j h1 h2 => ?_) ⟨?_, ?_, fun s hs => ?_, ?_, fun b n _ _ _ _ => ?_⟩
  · rw [sX_eq, sX_eq, u1 40 (by decide)]
    unfold upd
    rw [if_neg h2, if_neg h1]
  · rw [sX_eq, sX_eq]
    unfold upd
    rw [if_neg (by decide), if_pos rfl]
    rfl
  · rw [sX_eq]
    unfold upd
    rw [if_pos rfl]
    show _ = nI 1023
    decide
  · rw [sX_ne (by decide), sX_ne (by decide), u2 s (by omega)]
    rfl
  · rw [hV, sY_eq, sY_eq]
    simp [vp_updL]
    rfl
  · rw [hV, sY_eq]
    simp [vp_updL]
    rfl
theorem s_go (h : Inv Z) (ch : CH Z m pg al tw X) (hw : w < 2147483648) (hq : ∀ U V, EndC Z m w X (srch m (dN Z) w (okS pg al (cl Z 56) tw)).1 (srch m (dN Z) w (okS pg al (cl Z 56) tw)).2 U V → QV U V) : PX5_go (nI w) X Y QV := by
  intro I52 h52
  obtain ⟨cX, hm, hm3, -⟩ := id ch
  unfold BX5_go_s
  refine s_clear (Z := Z) (m := m) hm (fun U V u1 u2 tU => ?_)
  have e31 : (sX (sX (sX U 39 9 0) 39 10 0) 39 11 0) 31 3 = nI m := by rw [sX_ne (by decide), sX_ne (by decide), sX_ne (by decide), u1 31 (by decide) (by decide)]; exact hm3
  have ne : ∀ q, q ≠ 39 → (sX (sX (sX U 39 9 0) 39 10 0) 39 11 0) q = U q := fun q h1 => by rw [sX_ne h1, sX_ne h1, sX_ne h1]
  have e39 : ∀ j, (sX (sX (sX U 39 9 0) 39 10 0) 39 11 0) 39 j = if j = 11 then 0 else if j = 10 then 0 else if j = 9 then 0 else U 39 j := fun j => by rw [sX_eq, sX_eq, sX_eq]; rfl
  have e0 : (nI m = 0) = (m = 0) := eq_nI (b := 0) (by omega) (by omega)
  have fS : ∀ q, q < 39 ∨ 47 ≤ q → (sX (sX (sX U 39 9 0) 39 10 0) 39 11 0) q = X q := fun q h1 => by rw [ne q (by omega), u1 q (by omega) (by omega)]
  rw [e31, e0]
  refine ⟨fun hm0 => ?_, fun hm0 => ?_⟩
  · refine s_enter (a := fun _ => 0) (s := 0) h ch (by omega) fS (fun j hj => absurd hj (by omega)) (fun z => absurd z (by omega)) (fun W w1 w2 w3 w4 => ?_)
    have hr := srch_run (m := m) (N := dN Z) (w := w) (ok := okS pg al (cl Z 56) tw) hm (by omega)
    refine go_run h ch hw h52 hq fuel0 fuel0 (Nat.le_refl _) 0 (fun _ => 0) 0 [] 0 W V (St.init (by omega)) ?_ (by omega) hr
    obtain ⟨so, w3, w3'⟩ := w3
    obtain ⟨fr, w4, w4'⟩ := w4
    refine ⟨fun q hq => by rw [w1 q (by omega) (by omega) (by omega)]; exact fS q hq, ⟨?_, ?_⟩, ?_, ?_, ⟨0, by omega, ?_, fun j hj => absurd hj (by omega)⟩, fun j hj => ?_, fun j hj => absurd hj (by omega), fun j hj => ?_, fun j hj => ?_, fun j hj => absurd hj (by omega), fun j hj => absurd hj (by omega), tU.congr ?_ ?_ rfl⟩
    · rw [w1 40 (by decide) (by decide) (by decide), ne 40 (by decide)]
      exact u2 5 (by decide) (by decide)
    · rw [w1 40 (by decide) (by decide) (by decide), ne 40 (by decide)]
      exact u2 6 (by decide) (by decide)
    · rw [w1 39 (by decide) (by decide) (by decide), e39]
      rfl
    · rw [w1 39 (by decide) (by decide) (by decide), e39]
      rfl
    · rw [w1 39 (by decide) (by decide) (by decide), e39]
      rfl
    · have : j = 0 := by omega
      subst this
      rw [w2]
      simp [upd]
      rfl
    · have : j = 0 := by omega
      subst this
      exact ⟨so, by rw [w3]; simp [upd], w3'⟩
    · have : j = 0 := by omega
      subst this
      exact ⟨fr, by rw [w4]; simp [upd], w4'⟩
    · rw [w1 40 (by decide) (by decide) (by decide), ne 40 (by decide)]
    · rw [w1 41 (by decide) (by decide) (by decide), ne 41 (by decide)]
  · subst hm0
    refine s_talAdd (A := 0) (P := 0) (W := 1) (as := false) (fun W V' w1 w2 w3 w4 v1 v2 v3 => hq W V' ?_)
    have es : srch 0 (dN Z) w (okS pg al (cl Z 56) tw) = (false, [fun _ => 0]) := by unfold srch; rw [if_pos rfl]
    rw [es]
    refine ⟨fun q hq => by rw [w1 q (by omega)]; exact fS q hq, ⟨?_, ?_⟩, ?_, ⟨?_, ?_, fun s hs => absurd hs (by omega), ?_, fun b n _ _ z => absurd z (by omega)⟩, fun _ r rest _ s hs => absurd hs (by omega)⟩
    · rw [w2 5 (by decide) (by decide), ne 40 (by decide)]
      exact u2 5 (by decide) (by decide)
    · rw [w2 6 (by decide) (by decide), ne 40 (by decide)]
      exact u2 6 (by decide) (by decide)
    · rw [w1 39 (by decide), e39]
      rfl
    · have := w3 0 (by rw [ne 40 (by decide)]; exact tU.1)
      exact this
    · have := w4 1023 (by rw [ne 40 (by decide)]; exact tU.2.1)
      rw [this]
      rfl
    · rw [v1, tU.2.2.2.1]
      rfl
end GO2
