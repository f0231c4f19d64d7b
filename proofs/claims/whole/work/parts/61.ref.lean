/-! THE REFERENCE's search goes as the machine goes -/
def TalM (Z : XT) (m e : Nat) (rs : List (Nat → Nat)) (X : XT) (Y : YT) : Prop := X 48 47 = nI rs.length ∧ X 48 51 = nI (tEach m e rs) ∧ X 48 52 = nI (tSome m rs) ∧ (∀ s, s < m → X 75 s = nI (tMay s rs)) ∧ Y 48 48 = tAll (Z 55) m rs ∧ ∀ s n, s < m → n < 10 → Y 76 (10 * s + n) = tPart (Z 55) m s n rs
/-- the slot s is the bar b -/
def isBarS (Z : XT) (ps bs b s : Nat) : Prop := s < nsl Z ps bs ∧ Z 62 (pls Z ps bs s) = -1 ∧ cb (Z 62) (pls Z ps bs s) = b
section REF2
variable {Z X : XT} {Y : YT} {Q : Int32 → XT → YT → Prop} {QV : XT → YT → Prop} {ps bs aw v : Nat} {mu : Nat → Int32}
theorem isBarS_inj {b s s' : Nat} (h : isBarS Z ps bs b s) (h' : isBarS Z ps bs b s') : s = s' := by
  have e := cb_inj h.2.1 h'.2.1 (h.2.2.trans h'.2.2.symm)
  have a1 := pls_ok h.1
  have a2 := pls_ok h'.1
  rw [← a1.2.2, ← a2.2.2, e]
theorem barS_iff (h : Inv Z) (c : FR Z X) {b s : Nat} (hb : b < 10) (hs : s < nsl Z ps bs) : X 63 (pls Z ps bs s) = nI b ↔ isBarS Z ps bs b s := by
  have pk := pls_ok hs
  have hB := i_B h
  rw [c.hi (by omega) (by omega), (i_ba h pk.1).1]
  unfold isBarS
  by_cases e : Z 62 (pls Z ps bs s) = -1
  · have := cb_lt e pk.1
    rw [if_pos e, eq_nI (by omega) (by omega)]
    exact ⟨fun z => ⟨hs, e, z⟩, fun z => z.2.2⟩
  · rw [if_neg e]
    exact ⟨fun z => absurd z.symm (nI_ne1 (by omega)), fun z => absurd z.2.1 e⟩
theorem s_takeM (h : Inv Z) (c : FR Z X) (rl : RLd Z ps bs X) {e : Nat} {rs : List (Nat → Nat)} {r : Nat → Nat} (hr : ∀ j, j < nsl Z ps bs → 1 ≤ r j ∧ r j ≤ dN Z) (hg : ∀ j, j < nsl Z ps bs → X 73 j = nI (r j - 1)) (t : TalM Z (nsl Z ps bs) e rs X Y)
    (hq : ∀ (U : XT) (V : YT), (∀ q, q ≠ 48 → q ≠ 75 → U q = X q) → (∀ j, j ≠ 47 → j ≠ 51 → j ≠ 52 → j ≠ 55 → U 48 j = X 48 j) → TalM Z (nsl Z ps bs) e (r :: rs) U V → (¬ X 48 47 = X 48 53 → U 48 55 = X 48 55) → (X 48 47 = X 48 53 → ∀ b s, b < 10 → X 48 54 = nI b → isBarS Z ps bs b s → U 48 55 = nI (r s - 1)) → QV U V) : PX10_takeReading X Y QV := by
  intro I7 I53 I153 h7 h53 h153
  have hN := i_N h
  have hK := i_K h
  have hm := nsl_le (ps := ps) (bs := bs) h
  obtain ⟨t1, t2, t3, t4, t5, t6⟩ := t
  unfold BX10_takeReading_s
  -- the second loop
  have second : I53 (tProd (Z 55) r (nsl Z ps bs)) (nI (tSet r (nsl Z ps bs))) 0 X Y := by
    refine dn (n := nsl Z ps bs) (P := fun k => ∀ (U : XT) (V : YT), (∀ q, q ≠ 75 → U q = X q) → (∀ s, s < nsl Z ps bs → U 75 s = if s < k then nI (tMay s (r :: rs)) else nI (tMay s rs)) → V 48 48 = Y 48 48 → (∀ s n, s < nsl Z ps bs → n < 10 → V 76 (10 * s + n) = if s < k then tPart (Z 55) (nsl Z ps bs) s n (r :: rs) else tPart (Z 55) (nsl Z ps bs) s n rs) → I53 (tProd (Z 55) r (nsl Z ps bs)) (nI (tSet r (nsl Z ps bs))) (nI k) U V) ?_ ?_ 0 (by omega) X Y (fun _ _ => rfl) (fun s hs => by rw [if_neg (by omega)]; exact t4 s hs) rfl (fun s n hs hn => by rw [if_neg (by omega)]; exact t6 s n hs hn)
    · intro U V u1 u2 v1 v2
      apply h53
      unfold BX10_takeReading_53
      rw [u1 48 (by decide), rl.1, le_nI (by omega) (by omega)]
      refine ⟨fun _ X2 e2 => ?_, fun g => absurd (by omega) g⟩
      have x48 : ∀ j, X2 48 j = if j = 52 then nI (tSome (nsl Z ps bs) (r :: rs)) else if j = 51 then nI (tEach (nsl Z ps bs) e (r :: rs)) else X 48 j := by
        intro j
        rw [e2, sX_eq, sX_eq, u1 48 (by decide), t2, bx_and]
        unfold upd
        by_cases z : j = 52
        · rw [if_pos z, if_pos z, if_neg (by decide), t3, bx_or]
          rfl
        · rw [if_neg z, if_neg z]
          rfl
      have xne : ∀ q, q ≠ 48 → X2 q = U q := fun q hq => by rw [e2, sX_ne hq, sX_ne hq]
      have e47 : X2 48 47 = X 48 47 := by rw [x48 47, if_neg (by decide), if_neg (by decide)]
      have e53 : X2 48 53 = X 48 53 := by rw [x48 53, if_neg (by decide), if_neg (by decide)]
      rw [e53, v1, t5]
      have fin : ∀ W : XT, (∀ q, q ≠ 48 → W q = X2 q) → (∀ j, j ≠ 55 → W 48 j = X2 48 j) → (¬ X 48 47 = X 48 53 → W 48 55 = X 48 55) → (X 48 47 = X 48 53 → ∀ b s, b < 10 → X 48 54 = nI b → isBarS Z ps bs b s → W 48 55 = nI (r s - 1)) → QV (sX W 48 47 (W 48 47 + 1)) (sY V 48 48 (tAll (Z 55) (nsl Z ps bs) rs + tProd (Z 55) r (nsl Z ps bs))) := by
        intro W w1 w2 w3 w4
        have y48 : ∀ j, j ≠ 47 → (sX W 48 47 (W 48 47 + 1)) 48 j = W 48 j := fun j hj => by rw [sX_eq]; unfold upd; rw [if_neg hj]
        refine hq _ _ (fun q h1 h2 => by rw [sX_ne h1, w1 q h1, xne q h1, u1 q h2]) (fun j h1 h2 h3 h4 => by rw [y48 j h1, w2 j h4, x48 j, if_neg h3, if_neg h2]) ⟨?_, ?_, ?_, fun s hs => ?_, ?_, fun s n hs hn => ?_⟩ (fun z => by rw [y48 55 (by decide)]; exact w3 z) (fun z b s h1 h2 h3 => by rw [y48 55 (by decide)]; exact w4 z b s h1 h2 h3)
        · rw [sX_eq]
          unfold upd
          rw [if_pos rfl, w2 47 (by decide), x48 47, if_neg (by decide), if_neg (by decide), t1, nI_1]
          rfl
        · rw [y48 51 (by decide), w2 51 (by decide), x48 51, if_neg (by decide), if_pos rfl]
        · rw [y48 52 (by decide), w2 52 (by decide), x48 52, if_pos rfl]
        · rw [sX_ne (by decide), w1 75 (by decide), xne 75 (by decide), u2 s hs, if_pos hs]
        · rw [sY_eq]
          simp [vp_updL]
          rfl
        · rw [sY_ne (by decide), v2 s n hs hn, if_pos hs]
      refine ⟨fun g => fin X2 (fun _ _ => rfl) (fun _ _ => rfl) (fun _ => by rw [x48 55, if_neg (by decide), if_neg (by decide)]) (fun z => absurd (e47.trans z) g), fun g => ?_⟩
      rw [e47] at g
      refine dn (n := nsl Z ps bs) (P := fun k => ∀ W : XT, (∀ q, q ≠ 48 → W q = X2 q) → (∀ j, j ≠ 55 → W 48 j = X2 48 j) → (∀ b s, b < 10 → X 48 54 = nI b → isBarS Z ps bs b s → s < k → W 48 55 = nI (r s - 1)) → I153 (nI k) W (sY V 48 48 (tAll (Z 55) (nsl Z ps bs) rs + tProd (Z 55) r (nsl Z ps bs)))) ?_ ?_ 0 (by omega) X2 (fun _ _ => rfl) (fun _ _ => rfl) (fun b s _ _ _ z => absurd z (by omega))
      · intro W w1 w2 w3
        apply h153
        unfold BX10_takeReading_153
        rw [w2 43 (by decide), x48 43, if_neg (by decide), if_neg (by decide), rl.1, le_nI (by omega) (by omega)]
        exact ⟨fun _ => fin W w1 w2 (fun z => absurd g z) (fun _ b s h1 h2 h3 => w3 b s h1 h2 h3 h3.1), fun z => absurd (by omega) z⟩
      · intro k hk ih W w1 w2 w3
        apply h153
        unfold BX10_takeReading_153
        have pk := pls_ok hk
        have w48 : ∀ j, j ≠ 55 → j ≠ 52 → j ≠ 51 → W 48 j = X 48 j := fun j h1 h2 h3 => by rw [w2 j h1, x48 j, if_neg h2, if_neg h3]
        have wq : ∀ q, q ≠ 48 → q ≠ 75 → W q = X q := fun q h1 h2 => by rw [w1 q h1, xne q h1, u1 q h2]
        rw [w48 43 (by decide) (by decide) (by decide), w48 54 (by decide) (by decide) (by decide), rl.1, le_nI (by omega) (by omega), cl_nI (by omega), wq 72 (by decide) (by decide), rl.2.1 k hk, cl_nI (by omega), wq 63 (by decide) (by decide), wq 73 (by decide) (by decide), hg k hk]
        refine ⟨fun z => absurd z (by omega), fun _ => ⟨vp_in_nI (by omega) (by omega), vp_in_nI (by omega) (by omega), fun z w hw => ?_, fun z => ⟨vp_in_nI (by omega) (by omega), fun w hw => ?_⟩⟩⟩
        · rw [hw, nI_1]
          refine ih _ (fun q hq => by rw [sX_ne hq]; exact w1 q hq) (fun j hj => by rw [sX_eq]; unfold upd; rw [if_neg hj]; exact w2 j hj) (fun b s h1 h2 h3 h4 => ?_)
          rw [sX_eq]
          unfold upd
          rw [if_pos rfl]
          by_cases es : s = k
          · subst es
            rw [h2] at z
            exact absurd ((barS_iff h c h1 hk).mpr h3) z
          · exact w3 b s h1 h2 h3 (by omega)
        · rw [hw, nI_1]
          refine ih _ (fun q hq => by rw [sX_ne hq]; exact w1 q hq) (fun j hj => by rw [sX_eq]; unfold upd; rw [if_neg hj]; exact w2 j hj) (fun b s h1 h2 h3 h4 => ?_)
          rw [sX_eq]
          unfold upd
          rw [if_pos rfl]
          rw [h2] at z
          rw [isBarS_inj h3 ((barS_iff h c h1 hk).mp z)]
    · intro k hk ih U V u1 u2 v1 v2
      apply h53
      unfold BX10_takeReading_53
      have hrk := hr k hk
      rw [u1 48 (by decide), rl.1, le_nI (by omega) (by omega), cl_nI (by omega), u2 k hk, if_neg (by omega), u1 73 (by decide), hg k hk, bx_1shl (by omega), bx_or]
      refine ⟨fun g => absurd g (by omega), fun _ => ⟨vp_in_nI (by omega) (by omega), vp_in_nI (by omega) (by omega), vp_in_nI (by omega) (by omega), fun X5 e5 => ?_⟩⟩
      have e73 : X5 73 k = nI (r k - 1) := by rw [e5, sX_ne (by decide), u1 73 (by decide), hg k hk]
      rw [e73, mul10', cl_nI (by omega)]
      refine ⟨vp_in_nI (by omega) (by omega), vp_in_nI (by omega) (by omega), vp_in_nI (by omega) (by omega), fun Y7 e7 w hw => ?_⟩
      rw [hw, nI_1]
      refine ih X5 Y7 (fun q hq => by rw [e5, sX_ne hq]; exact u1 q hq) (fun s hs => ?_) (by rw [e7, sY_ne (by decide)]; exact v1) (fun s n hs hn => ?_)
      · rw [e5, sX_eq]
        unfold upd
        by_cases es : s = k
        · rw [if_pos es, if_pos (by omega), es]
          rfl
        · rw [if_neg es, u2 s hs]
          by_cases e2 : s < k
          · rw [if_pos e2, if_pos (by omega)]
          · rw [if_neg e2, if_neg (by omega)]
      · rw [e7, sY_eq]
        unfold vp_updL
        by_cases es : s = k
        · subst es
          have y1 : V 76 (10 * s + (r s - 1)) = tPart (Z 55) (nsl Z ps bs) s (r s - 1) rs := by rw [v2 s _ hs (by omega), if_neg (by omega)]
          have y2 : V 76 (10 * s + n) = tPart (Z 55) (nsl Z ps bs) s n rs := by rw [v2 s _ hs hn, if_neg (by omega)]
          rw [if_pos (show s < s + 1 by omega), y1, y2]
          show _ = tPart (Z 55) (nsl Z ps bs) s n rs + (if r s - 1 = n then tProd (Z 55) r (nsl Z ps bs) else 0)
          by_cases en : r s - 1 = n
          · subst en
            rw [if_pos rfl, if_pos rfl]
          · rw [if_neg (show ¬ 10 * s + n = 10 * s + (r s - 1) by omega), if_neg en, Int64.add_zero]
        · rw [if_neg (by omega), v2 s n hs hn]
          by_cases e2 : s < k
          · rw [if_pos e2, if_pos (by omega)]
          · rw [if_neg e2, if_neg (by omega)]
  refine dn (n := nsl Z ps bs) (P := fun k => I7 (tProd (Z 55) r k) (nI (tSet r k)) (nI k) X Y) ?_ ?_ 0 (by omega)
  · apply h7
    unfold BX10_takeReading_7
    rw [rl.1, le_nI (by omega) (by omega)]
    exact ⟨fun _ => second, fun g => absurd (by omega) g⟩
  · intro k hk ih
    apply h7
    unfold BX10_takeReading_7
    have hrk := hr k hk
    rw [rl.1, le_nI (by omega) (by omega), cl_nI (by omega), hg k hk, cl_nI (by omega), c.hi (by omega) (by omega), bx_1shl (by omega), bx_or]
    refine ⟨fun g => absurd g (by omega), fun _ => ⟨vp_in_nI (by omega) (by omega), vp_in_nI (by omega) (by omega), fun w2 e2 => ⟨vp_in_nI (by omega) (by omega), fun w4 e4 w6 e6 => ?_⟩⟩⟩
    rw [e2, e4, e6, nI_1]
    exact ih
end REF2
