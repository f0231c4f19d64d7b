/-! page: the reference's place and loop -/
theorem plF_w {Z : XT} {t N i k nb : Nat} {sh : Nat → Int32} (h : ¬ (wF (Z 2) t 2 i).1 = 0) : plF Z t N i k nb sh = ((wF (Z 2) t 2 i).1, nI (wF (Z 2) t 2 i).2) := by
  have e : plQ (Z 2) t i k = ((wF (Z 2) t 2 i).1, nI (wF (Z 2) t 2 i).2) := by
    unfold plQ
    rw [flF_1 h, flF_st (p := ((wF (Z 2) t 2 i).1, nI (wF (Z 2) t 2 i).2)) h, flF_st (p := ((wF (Z 2) t 2 i).1, nI (wF (Z 2) t 2 i).2)) h]
  unfold plF
  rw [e, if_neg h]
theorem plF_4 {Z : XT} {t N i k nb : Nat} {sh : Nat → Int32} (h : (wF (Z 2) t 2 i).1 = 0) (hk : ¬ k < 4) : plF Z t N i k nb sh = (4, nI (sk (Z 2) t i)) := by
  have n4 : ¬ ((4, sk (Z 2) t i) : Nat × Nat).1 = 0 := by show ¬ 4 = 0; omega
  have m4 : ¬ ((4, nI (sk (Z 2) t i)) : Nat × Int32).1 = 0 := by show ¬ 4 = 0; omega
  have e : plQ (Z 2) t i k = (4, nI (sk (Z 2) t i)) := by
    unfold plQ
    rw [flF_0 h, if_neg hk, flF_1 n4, flF_st m4]
  unfold plF
  rw [e, if_neg m4]
theorem plF_n {Z : XT} {t N i k nb : Nat} {sh : Nat → Int32} (h : (wF (Z 2) t 2 i).1 = 0) (hk : k < 4) (hn : ¬ (nF (Z 2) t 0 3 (wE (Z 2) t i)).1 = 0) : plF Z t N i k nb sh = flF (0, -1) (nF (Z 2) t 0 3 (wE (Z 2) t i)) := by
  have e : plQ (Z 2) t i k = flF (0, -1) (nF (Z 2) t 0 3 (wE (Z 2) t i)) := by
    unfold plQ
    rw [flF_0 h, if_pos hk, flF_no]
  unfold plF
  rw [e, if_neg]
  rw [flF_1 hn]
  exact hn
theorem plF_g {Z : XT} {t N i k nb : Nat} {sh : Nat → Int32} (h : (wF (Z 2) t 2 i).1 = 0) (hk : k < 4) (hn : (nF (Z 2) t 0 3 (wE (Z 2) t i)).1 = 0) : plF Z t N i k nb sh =
    (if chr (Z 2) t (pj (Z 2) t i) = 91 then (if 10 ≤ nb then (5, nI (pj (Z 2) t i)) else bjF (Z 2) t (pj (Z 2) t i))
    else if pj (Z 2) t i < t ∧ isLb (Z 2 (pj (Z 2) t i)) = true then (if nmA Z t N (pj (Z 2) t i) = -1 ∨ tkn sh (nmA Z t N (pj (Z 2) t i)) k = true then (3, nI (pj (Z 2) t i)) else (0, -1))
    else (1, nI (pj (Z 2) t i))) := by
  have e : plQ (Z 2) t i k = (0, -1) := by
    unfold plQ
    rw [flF_0 h, if_pos hk, flF_no, flF_0 hn]
  unfold plF
  rw [e]
  rfl
/-- what the reference holds of the places so far -/
def RA (k nb B : Nat) (oc sh wd : Nat → Int32) (X : XT) : Prop :=
  X 48 32 = nI k ∧ X 48 33 = nI (nb - B) ∧ B ≤ nb ∧ ∀ k', k' < k → X 68 k' = oc k' ∧ X 69 k' = sh k' ∧ X 70 k' = wd k'
section RPLACE
variable {Z Z1 X : XT} {Y : YT} {Q : Int32 → XT → YT → Prop} {QV : XT → YT → Prop} {t i N B : Nat} {p : Nat × Int32}
theorem RA.g3 {k nb : Nat} {oc sh wd : Nat → Int32} {U : XT} (h : RA k nb B oc sh wd X) (g : G3 X U) : RA k nb B oc sh wd U := by
  obtain ⟨h1, h2, h3, h4⟩ := h
  refine ⟨?_, ?_, h3, ?_⟩
  · rw [g.2 32 (by omega)]; exact h1
  · rw [g.2 33 (by omega)]; exact h2
  · rw [g.1 68 (by decide), g.1 69 (by decide), g.1 70 (by decide)]; exact h4
theorem r_name (z : TR Z Z1 t) (hN : N ≤ 10) (hn : Z1 48 1 = nI N) (hs : ∀ j, ∃ v, v ≤ 12 ∧ Z 6 j = nI v) (e50 : Z1 50 = Z 5) (e51 : Z1 51 = Z 6) {j k : Nat} {sh : Nat → Int32} (h : RP Z1 t j (0, -1) X) (hj : sk (Z 2) t j = j) (hk : k < 4) (ek : X 48 32 = nI k) (hsh : ∀ k', k' < k → X 69 k' = sh k')
    (q1 : ¬ (j < t ∧ isLb (Z 2 j) = true) → ∀ U i', RP Z1 t i' (1, nI j) U → QV U Y)
    (q3 : (j < t ∧ isLb (Z 2 j) = true) → (nmA Z t N j = -1 ∨ tkn sh (nmA Z t N j) k = true) → ∀ U i', RP Z1 t i' (3, nI j) U → QV U Y)
    (q0 : (j < t ∧ isLb (Z 2 j) = true) → ¬ (nmA Z t N j = -1 ∨ tkn sh (nmA Z t N j) k = true) → ∀ U, RP Z1 t (eow (Z 2) (t - j) j) (0, -1) U → G3 X U → QV (sX U 69 k (nmA Z t N j)) Y) : PX10_takeName X Y QV := by
  intro I40 I74 I87 h40 h74 h87
  have ht := z.1
  have hjt := h.2.2.2.1
  have hle := eow_le (Z 2) (t - j) j
  have ew : wE (Z 2) t j = eow (Z 2) (t - j) j := by
    unfold wE
    rw [hj]
  unfold BX10_takeName_s
  refine r_word z h (fun U c f e28 e29 => ?_)
  rw [ew, hj] at e29
  rw [ew] at c
  rw [hj] at e28
  have e32 : U 48 32 = nI k := by
    rw [f.2 32 (by omega)]
    exact ek
  have e69 : U 69 = X 69 := f.1 69 (by decide)
  have fin : ∀ a2, TV a2 (¬ (nmA Z t N j = -1 ∨ tkn sh (nmA Z t N j) k = true)) → (j < t ∧ isLb (Z 2 j) = true) → I74 (nmA Z t N j) a2 U Y := by
    intro a2 tv hL
    have hp := eow_pos.mp hL
    apply h74
    unfold BX10_takeName_74
    rw [e29, show (0 : Int32) = nI 0 from rfl, le_nI (by omega) (by omega)]
    refine ⟨fun y => absurd y (by omega), fun _ => ?_⟩
    apply h87
    unfold BX10_takeName_87
    rw [e28]
    refine r_want (k := 1) c (TV.t (p := True) trivial) (by omega) (fun _ => ⟨fun y => absurd y (by decide), fun _ => ?_⟩) (fun y => absurd trivial y)
    rw [e28]
    refine r_want (k := 3) c tv (by omega) (fun y => ⟨fun y => absurd y (by decide), fun _ => ?_⟩) (fun y W cw fw => ⟨fun _ => q3 hL (Classical.not_not.mp y) W _ cw, fun y => absurd rfl y⟩)
    rw [e32, cl_nI (by omega)]
    exact ⟨vp_in_nI hk (by omega), q0 hL y U c f⟩
  rw [e29, e28, show (0 : Int32) = nI 0 from rfl, le_nI (by omega) (by omega)]
  refine ⟨fun y => ⟨fun _ => ?_, fun y => absurd (by decide) y⟩, fun y => ?_⟩
  · have hL : ¬ (j < t ∧ isLb (Z 2 j) = true) := fun q => by
      have := eow_pos.mp q
      omega
    have go : I74 (-1) 0 U Y := by
      apply h74
      unfold BX10_takeName_74
      rw [e29, show (0 : Int32) = nI 0 from rfl, le_nI (by omega) (by omega)]
      refine ⟨fun _ => ?_, fun q => absurd y q⟩
      apply h87
      unfold BX10_takeName_87
      rw [e28]
      exact r_want (k := 1) c (TV.f (p := False) (fun y => y)) (by omega) (fun y => absurd y (fun y => y)) (fun _ W cw fw => ⟨fun _ => q1 hL W _ cw, fun y => absurd rfl y⟩)
    apply h40
    unfold BX10_takeName_40
    exact ⟨fun _ => go, fun _ => ⟨fun _ => go, fun q => absurd rfl q⟩⟩
  · have hL : j < t ∧ isLb (Z 2 j) = true := eow_pos.mpr (by omega)
    refine s_nameAt (N := N) hN (by rw [c.2.1 1 (by omega)]; exact hn) (by rw [c.1 51 (by decide) (by decide) (by decide) (by decide), e51]; exact hs) (by omega) ?_
    rw [c.1 50 (by decide) (by decide) (by decide) (by decide), c.1 51 (by decide) (by decide) (by decide) (by decide), e50, e51, c.b z]
    rw [show fst (isN (Z 5) (Z 6) (Z 2) j (eow (Z 2) (t - j) j - j)) N 0 = nmA Z t N j from rfl]
    rcases fst_or (isN (Z 5) (Z 6) (Z 2) j (eow (Z 2) (t - j) j - j)) N 0 with e | ⟨n, _, hnN, _, e⟩
    · have e : nmA Z t N j = -1 := e
      have go := fin 0 (TV.f (fun q => q (Or.inl e))) hL
      rw [e] at go ⊢
      refine ⟨fun _ => ?_, fun q => absurd (by decide) q⟩
      apply h40
      unfold BX10_takeName_40
      exact ⟨fun _ => go, fun _ => ⟨fun _ => go, fun q => absurd rfl q⟩⟩
    · have e : nmA Z t N j = nI n := e
      rw [show (nmA Z t N j < nI 0) = False by rw [e]; exact lt0_nI (by omega)]
      refine ⟨fun q => q.elim, fun _ => ?_⟩
      have key : ∀ d m a2, m + d = k → TV a2 (¬ tkn sh (nmA Z t N j) m = true) → I40 (nmA Z t N j) a2 (nI m) U Y := by
        have stop : ∀ m a2, TV a2 (¬ tkn sh (nmA Z t N j) m = true) → m ≤ k → (m = k ∨ a2 = 0) → I74 (nmA Z t N j) a2 U Y := by
          intro m a2 tv hm hor
          refine fin a2 (tv.mp ⟨fun q r => ?_, fun q r => ?_⟩) hL
          · rcases r with r | r
            · rw [e] at r
              exact nI_ne1 (by omega) r
            · rcases hor with o | o
              · rw [o] at q
                exact q r
              · rw [tv.z] at o
                exact o q
          · obtain ⟨k', r1, r2⟩ := tkn_iff.mp r
            exact q (Or.inr (tkn_iff.mpr ⟨k', by omega, r2⟩))
        intro d
        induction d with
        | zero =>
          intro m a2 hm tv
          apply h40
          unfold BX10_takeName_40
          rw [e32, le_nI (by omega) (by omega)]
          exact ⟨fun _ => stop m a2 tv (by omega) (Or.inl (by omega)), fun q => absurd (by omega) q⟩
        | succ d ih =>
          intro m a2 hm tv
          apply h40
          unfold BX10_takeName_40
          rw [e32, le_nI (by omega) (by omega), cl_nI (by omega), e69, hsh m (by omega)]
          refine ⟨fun q => absurd q (by omega), fun _ => ⟨fun q => stop m a2 tv (by omega) (Or.inr q), fun q => ⟨vp_in_nI (by omega) (by omega), fun r w4 e4 => ?_, fun r w6 e6 => ?_⟩⟩⟩
          · rw [e4, nI_1]
            exact ih (m + 1) 0 (by omega) (TV.f (fun y => y (tkn_iff.mpr ⟨m, by omega, r⟩)))
          · rw [e6, nI_1]
            refine ih (m + 1) 1 (by omega) (TV.t (fun y => ?_))
            rw [tv.z] at q
            obtain ⟨k', r1, r2⟩ := tkn_iff.mp y
            by_cases ek : k' = m
            · rw [ek] at r2
              exact r r2
            · exact q (fun y => y (tkn_iff.mpr ⟨k', by omega, r2⟩))
      exact key k 0 1 (by omega) (TV.t (fun y => absurd (show (false : Bool) = true from y) (by decide)))
theorem r_place (z : TR Z Z1 t) (hN : N ≤ 10) (hn : Z1 48 1 = nI N) (hs : ∀ j, ∃ v, v ≤ 12 ∧ Z 6 j = nI v) (e50 : Z1 50 = Z 5) (e51 : Z1 51 = Z 6) (eB : Z1 48 22 = nI B) {k nb : Nat} {oc sh wd : Nat → Int32} (hk4 : k ≤ 4) (hnb : nb ≤ 10) (c : RP Z1 t i (0, -1) X) (d : RA k nb B oc sh wd X)
    (hq : ∀ U i', RP Z1 t i' (plF Z t N i k nb sh) U → ((plF Z t N i k nb sh).1 = 0 → i' = plE Z t i ∧ k < 4 ∧ RA (k + 1) (plB Z t i nb) B (upd oc k (nI (plO Z t i))) (upd sh k (plS Z t N i)) (upd wd k (plW Z t i)) U) → QV U Y) : PX10_takePlace X Y QV := by
  intro I50 I186 I129 h50 h186 h129
  have ht := z.1
  have hit := c.2.2.2.1
  have hsk := sk_le (b := Z 2) hit
  have bad : ∀ U i' (q : Nat × Int32), RP Z1 t i' q U → ¬ q.1 = 0 → plF Z t N i k nb sh = q → QV U Y := by
    intro U i' q cu hq0 e
    exact hq U i' (by rw [e]; exact cu) (fun y => absurd y (by rw [e]; exact hq0))
  unfold BX10_takePlace_s
  refine r_word z c (fun U1 c1 f1 e28 e29 w5 ew5 => ?_)
  rw [ew5, e28]
  refine r_isWord (n := 2) z c1 hit e28 e29 (by omega) (by decide) (fun r7 tv7 => ?_)
  refine r_want (k := 1) c1 (tv7.mp wF_tv.symm) (by omega) (fun gw => ⟨fun y => absurd y (by decide), fun _ => ?good0⟩) (fun gw W cw fw => ⟨fun _ => ?flt0, fun y => absurd rfl y⟩)
  case flt0 =>
    refine bad W _ _ cw (by show ¬ 1 = 0; omega) ?_
    rw [plF_w gw, wF_1 (fun y => gw (wF_tv.mpr y))]
  have d1 := d.g3 f1
  have body : ∀ t0, TV t0 (k < 4) → I50 (nI (sk (Z 2) t i)) t0 U1 Y := by
    intro t0 tv0
    apply h50
    unfold BX10_takePlace_50
    refine r_want (k := 4) c1 tv0 (by omega) (fun hk => ⟨fun y => absurd y (by decide), fun _ => ?good1⟩) (fun hk W cw fw => ⟨fun _ => ?flt1, fun y => absurd rfl y⟩)
    case flt1 =>
      exact bad W _ _ cw (by show ¬ 4 = 0; omega) (plF_4 gw hk)
    refine r_num (lo := 0) (hi := 3) z c1 (by omega) (by omega) (fun r6 U7 i7 c7 f7 hr6 => ?_)
    have d7 := d1.g3 f7
    obtain ⟨d32, d33, dB, dA⟩ := d7
    rw [d1.1, cl_nI (by omega), sX_ne (show (48 : Nat) ≠ 68 by decide), d32, cl_nI (by omega)]
    refine ⟨vp_in_nI hk (by omega), vp_in_nI hk (by omega), fun X10 e10 => ?_⟩
    have e32 : X10 48 32 = nI k := by rw [e10, sX_ne (by decide), sX_ne (by decide)]; exact d32
    have e33 : X10 48 33 = nI (nb - B) := by rw [e10, sX_ne (by decide), sX_ne (by decide)]; exact d33
    rw [e32, cl_nI (by omega)]
    refine ⟨vp_in_nI hk (by omega), ?_⟩
    obtain ⟨V, eV⟩ : ∃ V, V = sX X10 70 k 0 := ⟨_, rfl⟩
    rw [← eV]
    have cV : RP Z1 t i7 (flF (0, -1) (nF (Z 2) t 0 3 (wE (Z 2) t i))) V := by
      rw [eV, e10]
      exact ((c7.arr (by omega)).arr (by omega)).arr (by omega)
    have v48 : V 48 = U7 48 := by rw [eV, e10, sX_ne (by decide), sX_ne (by decide), sX_ne (by decide)]
    have v68 : V 68 = upd (U7 68) k r6 := by rw [eV, e10, sX_ne (by decide), sX_ne (by decide), sX_eq]
    have v69 : V 69 = upd (U7 69) k (-1) := by rw [eV, e10, sX_ne (by decide), sX_eq, sX_ne (by decide)]
    have v70 : V 70 = upd (U7 70) k 0 := by rw [eV, e10, sX_eq, sX_ne (by decide), sX_ne (by decide)]
    rw [cV.ft]
    refine ⟨fun gn => ?_, fun gn => ?_⟩
    · have gn' : ¬ (nF (Z 2) t 0 3 (wE (Z 2) t i)).1 = 0 := fun y => gn (by rw [flF_0 y])
      apply h186
      unfold BX10_takePlace_186
      rw [cV.ft]
      refine ⟨fun _ => ?_, fun y => absurd y gn⟩
      exact bad _ _ _ (cV.set (by omega) (by omega) (by omega)) gn (plF_n gw hk gn')
    have gn' : (nF (Z 2) t 0 3 (wE (Z 2) t i)).1 = 0 := (flF_z.mp gn).2
    obtain ⟨er6, ei7⟩ := hr6 gn'
    rw [flF_0 gn', ei7] at cV
    have ep : plF Z t N i k nb sh = _ := plF_g gw hk gn'
    refine r_here z cV (fun W cW fW => ?_)
    have cW : RP Z1 t (pj (Z 2) t i) (0, -1) W := cW
    have hpj : pj (Z 2) t i ≤ t := cW.2.2.2.1
    have hpp : sk (Z 2) t (pj (Z 2) t i) = pj (Z 2) t i := sk_sk (nE_le (wE_le hit).2).2
    have w32 : W 48 32 = nI k := by rw [fW.2 32 (by decide), v48]; exact d32
    have w33 : W 48 33 = nI (nb - B) := by rw [fW.2 33 (by decide), v48]; exact d33
    have w68 : W 68 = upd (U7 68) k r6 := by rw [fW.1 68 (by decide)]; exact v68
    have w69 : W 69 = upd (U7 69) k (-1) := by rw [fW.1 69 (by decide)]; exact v69
    have w70 : W 70 = upd (U7 70) k 0 := by rw [fW.1 70 (by decide)]; exact v70
    show (¬ chr (Z 2) t (pj (Z 2) t i) = 91 → I186 W Y) ∧ (chr (Z 2) t (pj (Z 2) t i) = 91 → _)
    refine ⟨fun h91 => ?_, fun h91 => ?_⟩
    · rw [if_neg h91] at ep
      have eE : plE Z t i = eow (Z 2) (t - pj (Z 2) t i) (pj (Z 2) t i) := if_neg h91
      have eS : plS Z t N i = nmA Z t N (pj (Z 2) t i) := if_neg h91
      have eW : plW Z t i = 0 := if_neg h91
      have eBb : plB Z t i nb = nb := if_neg h91
      apply h186
      unfold BX10_takePlace_186
      refine ⟨fun y => absurd cW.2.2.2.2.1 y, fun _ => ?_⟩
      refine r_name z hN hn hs e50 e51 (sh := sh) cW hpp hk w32 (fun k' hk' => ?_) (fun hL U i' cU => ?_) (fun hL hb U i' cU => ?_) (fun hL hb U cU fU => ?_)
      · rw [w69, upd_k hk']
        exact (dA k' hk').2.1
      · rw [if_neg hL] at ep
        exact bad _ _ _ (cU.set (by omega) (by omega) (by omega)) (by show ¬ 1 = 0; omega) ep
      · rw [if_pos hL, if_pos hb] at ep
        exact bad _ _ _ (cU.set (by omega) (by omega) (by omega)) (by show ¬ 3 = 0; omega) ep
      · rw [if_pos hL, if_neg hb] at ep
        have u32 : sX U 69 k (nmA Z t N (pj (Z 2) t i)) 48 32 = nI k := by rw [sX_ne (by decide), fU.2 32 (by omega)]; exact w32
        have u33 : sX U 69 k (nmA Z t N (pj (Z 2) t i)) 48 33 = nI (nb - B) := by rw [sX_ne (by decide), fU.2 33 (by omega)]; exact w33
        rw [u32, nI_1]
        refine hq _ _ (by rw [ep]; exact (cU.arr (by omega)).set (by omega) (by omega) (by omega)) (fun _ => ⟨eE.symm, hk, ?_⟩)
        rw [eS, eW, eBb]
        refine ⟨by rw [sX_eq, pk_us], by rw [sX_eq, pk_un (by decide)]; exact u33, dB, fun k' hk' => ?_⟩
        rw [sX_ne (by decide), sX_ne (by decide), sX_ne (by decide), sX_eq, sX_ne (by decide), sX_ne (by decide), fU.1 68 (by decide), fU.1 69 (by decide), fU.1 70 (by decide), w68, w69, w70]
        by_cases e : k' = k
        · rw [e, pk_us, pk_us, pk_us, pk_us, pk_us, pk_us]
          exact ⟨er6, rfl, rfl⟩
        · rw [pk_un e, pk_un e, pk_un e, pk_un e, pk_un e, pk_un e, pk_un e]
          exact dA k' (by omega)
    · rw [if_pos h91] at ep
      have eE : plE Z t i = sE (Z 2) t 93 (nE (Z 2) t (pj (Z 2) t i + 1)) := if_pos h91
      have eS : plS Z t N i = -1 := if_pos h91
      have eW : plW Z t i = nI (nV (Z 2) t (pj (Z 2) t i + 1)) := if_pos h91
      have eBb : plB Z t i nb = nb + 1 := if_pos h91
      have hlt : pj (Z 2) t i < t := by
        rcases Nat.lt_or_ge (pj (Z 2) t i) t with y | y
        · exact y
        · unfold chr at h91
          rw [if_neg (by omega)] at h91
          exact absurd h91 (by decide)
      have bar : ∀ t0, TV t0 (¬ 10 ≤ nb) → I129 t0 W Y := by
        intro t0 tv0
        apply h129
        unfold BX10_takePlace_129
        rw [cW.2.2.1]
        refine r_want (k := 5) cW tv0 (by omega) (fun hb => ⟨fun y => absurd y (by decide), fun _ => ?good2⟩) (fun hb U cU fU => ⟨fun _ => ?flt2, fun y => absurd rfl y⟩)
        case flt2 =>
          rw [if_pos (Classical.not_not.mp hb)] at ep
          exact bad _ _ _ (cU.set (by omega) (by omega) (by omega)) (by show ¬ 5 = 0; omega) ep
        rw [if_neg hb] at ep
        rw [cW.2.2.1, nI_1]
        have c2 := cW.at_ (j := pj (Z 2) t i + 1) (by omega)
        have f2 : G3 W (sX W 48 27 (nI (pj (Z 2) t i + 1))) := G1.at_.g3
        have x32 : sX W 48 27 (nI (pj (Z 2) t i + 1)) 48 32 = nI k := by rw [sX_eq, pk_un (by decide)]; exact w32
        rw [x32, cl_nI (by omega)]
        refine r_num (lo := 1) (hi := 200) z c2 (by omega) (by omega) (fun r U3 i3 c3 f3 hr => ⟨vp_in_nI hk (by omega), fun X10 e10 => ?_⟩)
        have f23 := f2.trans f3
        have cT : RP Z1 t i3 (flF (0, -1) (nF (Z 2) t 1 200 (pj (Z 2) t i + 1))) X10 := by
          rw [e10]
          exact c3.arr (by omega)
        by_cases hv : (nF (Z 2) t 1 200 (pj (Z 2) t i + 1)).1 = 0
        · obtain ⟨er, ei⟩ := hr hv
          rw [flF_0 hv, ei] at cT
          refine r_sign z cT (by decide) (fun U4 c4 f4 X16 e16 => ?_)
          have y32 : U4 48 32 = nI k := by rw [f4.2 32 (by omega), e10, sX_ne (by decide), f23.2 32 (by omega)]; exact w32
          have y33 : U4 48 33 = nI (nb - B) := by rw [f4.2 33 (by omega), e10, sX_ne (by decide), f23.2 33 (by omega)]; exact w33
          have y2 : sX U4 48 33 (nI (nb - B + 1)) 48 32 = nI k := by rw [sX_eq, pk_un (by decide)]; exact y32
          rw [y33, nI_1, y2, nI_1] at e16
          have ep2 : plF Z t N i k nb sh = flF (0, -1) (sF (Z 2) t 93 (nE (Z 2) t (pj (Z 2) t i + 1))) := by
            rw [ep]
            unfold bjF
            rw [flF_0 hv]
          have c5 : RP Z1 t (sE (Z 2) t 93 (nE (Z 2) t (pj (Z 2) t i + 1))) (plF Z t N i k nb sh) X16 := by
            rw [e16, ep2]
            exact (c4.set (by omega) (by omega) (by omega)).set (by omega) (by omega) (by omega)
          refine hq X16 _ c5 (fun _ => ⟨eE.symm, hk, ?_⟩)
          rw [eS, eW, eBb, e16]
          refine ⟨by rw [sX_eq, pk_us], by rw [sX_eq, pk_un (by decide), sX_eq, pk_us, show nb - B + 1 = nb + 1 - B by omega], by omega, fun k' hk' => ?_⟩
          rw [sX_ne (by decide), sX_ne (by decide), sX_ne (by decide), sX_ne (by decide), sX_ne (by decide), sX_ne (by decide), f4.1 68 (by decide), f4.1 69 (by decide), f4.1 70 (by decide), e10, sX_ne (by decide), sX_ne (by decide), sX_eq, f23.1 68 (by decide), f23.1 69 (by decide), f23.1 70 (by decide), w68, w69, w70]
          by_cases e : k' = k
          · rw [e, pk_us, pk_us, pk_us, pk_us, pk_us, pk_us]
            exact ⟨er6, rfl, er⟩
          · rw [pk_un e, pk_un e, pk_un e, pk_un e, pk_un e, pk_un e, pk_un e]
            exact dA k' (by omega)
        · have ep2 : plF Z t N i k nb sh = flF (0, -1) (nF (Z 2) t 1 200 (pj (Z 2) t i + 1)) := by
            rw [ep]
            unfold bjF
            rw [flF_st]
            rw [flF_1 hv]
            exact hv
          have hp : ¬ (flF (0, -1) (nF (Z 2) t 1 200 (pj (Z 2) t i + 1))).1 = 0 := by
            rw [flF_1 hv]
            exact hv
          refine r_sign_st cT hp (fun X16 e16 => ?_)
          refine bad X16 i3 _ ?_ hp ep2
          rw [e16]
          exact (cT.set (by omega) (by omega) (by omega)).set (by omega) (by omega) (by omega)
      rw [cW.2.1 22 (by omega), eB, w33, nI_add, show B + (nb - B) = nb by omega, show (10 : Int32) = nI 10 from rfl, le_nI (by omega) (by omega)]
      exact ⟨fun y => bar 0 (TV.f (fun q => q y)), fun y => bar 1 (TV.t y)⟩
  rw [d1.1, show (4 : Int32) = nI 4 from rfl, le_nI (by omega) (by omega)]
  exact ⟨fun y => body 0 (TV.f (by omega)), fun y => body 1 (TV.t (by omega))⟩
end RPLACE
