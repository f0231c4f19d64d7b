/-! page -/
theorem inv_pg {X V : XT} (h : Inv X) (hc : ∀ q, (2 ≤ q ∧ q ≤ 12) ∨ q = 29 ∨ q = 30 ∨ (49 ≤ q ∧ q ≤ 57) ∨ q = 78 ∨ q = 79 → V q = X q) (h08 : V 0 8 = X 0 8) (h09 : V 0 9 = X 0 9) (h010 : V 0 10 = V 48 31) (h11 : V 1 1 = 0) (h12 : V 48 12 = 0) (h1 : V 48 1 = X 48 1) (h9 : V 48 9 = X 48 9) (h10 : V 48 10 = X 48 10)
    (gp : gP (V 48 1) (V 13 10) (V 48 13) (V 13 11) (V 48 16) (V 13 12) (V 13 13) (V 48 22) (V 14) (V 58) (V 15) (V 59) (V 16) (V 60) (V 17) (V 61) (V 18) (V 62) (V 19) (V 20) (V 63) (V 21) (V 64) (V 22) (V 65))
    (gw : gW (V 48 22) (V 13 14) (V 48 24) (V 23) (V 66) (V 67)) : Inv V := by
  obtain ⟨hS, hk, hF, hT, hN, hA, hV, hP, hW, hR⟩ := h
  refine ⟨?_, ?_, h010, ?_, ?_, ?_, ?_, gp, gw, ?_⟩
  · rw [h08, h9]; exact hS
  · rw [h09, h10, h1]; exact hk
  · rw [h11, h12, hc 2 (by omega), hc 57 (by omega)]; exact ⟨rfl, hT.2.1, ⟨0, by omega, rfl⟩, hT.2.2.2⟩
  · rw [hc 3 (by omega), h1, hc 4 (by omega), hc 49 (by omega), hc 5 (by omega), hc 50 (by omega), hc 6 (by omega), hc 51 (by omega), hc 7 (by omega)]; exact hN
  · rw [h1, hc 8 (by omega), hc 52 (by omega), hc 9 (by omega), hc 53 (by omega), hc 10 (by omega), hc 54 (by omega), hc 11 (by omega), hc 55 (by omega)]; exact hA
  · rw [h1, hc 12 (by omega), hc 56 (by omega)]; exact hV
  · rw [h1, hc 29 (by omega), hc 78 (by omega), hc 30 (by omega), hc 79 (by omega)]; exact hR
section PAGE
variable {X : XT} {Y : YT} {K : XT → YT → Prop}
theorem pr_page (h : Inv X) (hK : ∀ X2, Inv X2 → K X2 Y) : PX9_page X Y (fun r X1 Y1 => PX10_page X1 Y1 (Kq K r)) := by
  obtain ⟨hS, hk, hF, hT, hN, hA, hV, hP, hW, hR⟩ := id h
  obtain ⟨t1, t2, ⟨t, ht, t3⟩, t4⟩ := id hT
  obtain ⟨p1, p2, p3, p4, p5, p6, p7, p8, p9, p10, p11, N, P, K0, B, n1, n2, q1, q2, q3, q4, q5, q6, q7, q8, r1, r2, r3, r4, r5, r6, r7, r8, r9, r10⟩ := id hP
  have z : TZ X t := ⟨ht, t1.trans t3, fun j => by rw [t2]; exact t4 j⟩
  have hn3 : X 3 9 = nI N := hN.1.trans n2
  obtain ⟨m1, m2, m3, m4, N', m5, m6, m7, m8, m9, m10⟩ := id hN
  have hs : ∀ j, ∃ v, v ≤ 12 ∧ X 6 j = nI v := by
    rw [m4]
    exact m9
  unfold PX9_page BX9_page_s
  rw [p1, q2, p3, q6, i_lt, show (8 : Int32) = nI 8 from rfl, le_nI (by omega) (by omega)]
  refine ⟨fun g => ?_, fun g => ?_⟩
  case refine_2 =>
    intro I111 I138 I220 I211 I167 I168 I263 I359 h111 h138 h220 h211 h167 h168 h263 h359
    unfold BX10_page_s
    rw [q2, show (8 : Int32) = nI 8 from rfl, eq_nI (by omega) (by omega)]
    exact ⟨fun y => absurd (by omega) y, fun _ => kq rfl (hK X h)⟩
  have hP8 : P < 8 := by omega
  have n8 : ¬ nI P = 8 := by
    rw [show (8 : Int32) = nI 8 from rfl, eq_nI (by omega) (by omega)]
    omega
  refine s_parse z n1 hn3 hs q5 (fun U cr X6 e6 => ?_)
  obtain ⟨R, eR⟩ : ∃ R, pgR X t N B = R := ⟨_, rfl⟩
  have hok := pgR_ok (Z := X) (t := t) n1 q5
  rw [eR] at cr hok
  obtain ⟨⟨pf, pw⟩, k, nb, oc, sh, wd⟩ := R
  obtain ⟨⟨i, cp⟩, da⟩ := cr
  have x6 : ∀ q, q ≠ 0 → q ≠ 1 → q ≠ 24 → q ≠ 25 → q ≠ 26 → q ≠ 27 → X6 q = X q := fun q a b c d e f => by
    rw [e6, sX_ne a, sX_ne b]
    exact cp.1 q c d e f
  have x0 : ∀ f, f ≠ 10 → X6 0 f = X 0 f := fun f hf => by
    rw [e6, sX_eq, pk_un hf, sX_ne (by decide), cp.1 0 (by decide) (by decide) (by decide) (by decide)]
  have x010 : X6 0 10 = pw := by
    rw [e6, sX_eq, pk_us, sX_ne (by decide)]
    exact cp.2.2.2.2.1
  have x11 : X6 1 1 = 0 := by rw [e6, sX_ne (by decide), sX_eq, pk_us]
  have x24 : ∀ q, q ≠ 0 → q ≠ 1 → X6 q = U q := fun q a b => by rw [e6, sX_ne a, sX_ne b]
  have f6 : X6 24 6 = nI pf := by
    rw [x24 24 (by decide) (by decide)]
    exact cp.2.2.2.1
  have hpf : pf < 6 := cp.2.2.2.2.2
  have x48 : X6 48 = X 48 := x6 48 (by decide) (by decide) (by decide) (by decide) (by decide) (by decide)
  have e0 : (nI pf = 0) = (pf = 0) := eq_nI (b := 0) (by omega) (by omega)
  rw [f6, e0]
  refine ⟨fun g0 => ?_, fun g0 => ?_⟩
  case refine_2 =>
    intro I111 I138 I220 I211 I167 I168 I263 I359 h111 h138 h220 h211 h167 h168 h263 h359
    have zr : TR X X6 t := ⟨ht, by rw [x48]; exact t3, z.2.2, by rw [x6 57 (by decide) (by decide) (by decide) (by decide) (by decide) (by decide)]; exact t2.symm⟩
    refine r_parse zr n1 (by rw [x48]; exact n2) hs (by rw [x6 50 (by decide) (by decide) (by decide) (by decide) (by decide) (by decide)]; exact m3.symm) (by rw [x6 51 (by decide) (by decide) (by decide) (by decide) (by decide) (by decide)]; exact m4.symm) q5 (by rw [x48]; exact q6) (by rw [x48, q2]; exact n8) h111 h138 h211 h167 h168 (fun a2 a3 W rr _ => ?_)
    rw [eR] at rr
    obtain ⟨⟨i', rp⟩, _⟩ := rr
    apply h220
    unfold BX10_page_220
    have w30 : sX W 48 12 0 48 30 = nI pf := by
      rw [sX_eq, pk_un (by decide)]
      exact rp.2.2.2.2.1
    have el : (nI pf ≤ 0) = (pf ≤ 0) := le_nI (b := 0) (by omega) (by omega)
    rw [w30, el]
    refine ⟨fun y => absurd y (by omega), fun _ => kq rfl (hK _ ?_)⟩
    have vq : ∀ q, q ≠ 0 → q ≠ 1 → q ≠ 24 → q ≠ 25 → q ≠ 26 → q ≠ 27 → q ≠ 48 → q ≠ 68 → q ≠ 69 → q ≠ 70 → sX W 48 12 0 q = X q := fun q a1 a2 a3 a4 a5 a6 a7 a8 a9 a10 => by
      rw [sX_ne a7, rp.1 q a7 a8 a9 a10]
      exact x6 q a1 a2 a3 a4 a5 a6
    have v0 : sX W 48 12 0 0 = X6 0 := by rw [sX_ne (by decide), rp.1 0 (by decide) (by decide) (by decide) (by decide)]
    have v1 : sX W 48 12 0 1 = X6 1 := by rw [sX_ne (by decide), rp.1 1 (by decide) (by decide) (by decide) (by decide)]
    have v48 : ∀ j, j < 27 ∨ 33 < j → j ≠ 12 → sX W 48 12 0 48 j = X 48 j := fun j hj h12 => by
      rw [sX_eq, pk_un h12, rp.2.1 j hj, x48]
    refine inv_pg h (fun q hq => vq q (by omega) (by omega) (by omega) (by omega) (by omega) (by omega) (by omega) (by omega) (by omega) (by omega)) (by rw [v0]; exact x0 8 (by decide)) (by rw [v0]; exact x0 9 (by decide)) ?_ (by rw [v1]; exact x11) (by rw [sX_eq, pk_us]) (v48 1 (by omega) (by decide)) (v48 9 (by omega) (by decide)) (v48 10 (by omega) (by decide)) ?_ ?_
    · rw [v0, x010, sX_eq, pk_un (by decide)]
      exact rp.2.2.2.2.2.1.symm
    · rw [v48 1 (by omega) (by decide), v48 13 (by omega) (by decide), v48 16 (by omega) (by decide), v48 22 (by omega) (by decide), vq 13 (by decide) (by decide) (by decide) (by decide) (by decide) (by decide) (by decide) (by decide) (by decide) (by decide), vq 14 (by decide) (by decide) (by decide) (by decide) (by decide) (by decide) (by decide) (by decide) (by decide) (by decide), vq 15 (by decide) (by decide) (by decide) (by decide) (by decide) (by decide) (by decide) (by decide) (by decide) (by decide), vq 16 (by decide) (by decide) (by decide) (by decide) (by decide) (by decide) (by decide) (by decide) (by decide) (by decide), vq 17 (by decide) (by decide) (by decide) (by decide) (by decide) (by decide) (by decide) (by decide) (by decide) (by decide), vq 18 (by decide) (by decide) (by decide) (by decide) (by decide) (by decide) (by decide) (by decide) (by decide) (by decide), vq 19 (by decide) (by decide) (by decide) (by decide) (by decide) (by decide) (by decide) (by decide) (by decide) (by decide), vq 20 (by decide) (by decide) (by decide) (by decide) (by decide) (by decide) (by decide) (by decide) (by decide) (by decide), vq 21 (by decide) (by decide) (by decide) (by decide) (by decide) (by decide) (by decide) (by decide) (by decide) (by decide), vq 22 (by decide) (by decide) (by decide) (by decide) (by decide) (by decide) (by decide) (by decide) (by decide) (by decide), vq 58 (by decide) (by decide) (by decide) (by decide) (by decide) (by decide) (by decide) (by decide) (by decide) (by decide), vq 59 (by decide) (by decide) (by decide) (by decide) (by decide) (by decide) (by decide) (by decide) (by decide) (by decide), vq 60 (by decide) (by decide) (by decide) (by decide) (by decide) (by decide) (by decide) (by decide) (by decide) (by decide), vq 61 (by decide) (by decide) (by decide) (by decide) (by decide) (by decide) (by decide) (by decide) (by decide) (by decide), vq 62 (by decide) (by decide) (by decide) (by decide) (by decide) (by decide) (by decide) (by decide) (by decide) (by decide), vq 63 (by decide) (by decide) (by decide) (by decide) (by decide) (by decide) (by decide) (by decide) (by decide) (by decide), vq 64 (by decide) (by decide) (by decide) (by decide) (by decide) (by decide) (by decide) (by decide) (by decide) (by decide), vq 65 (by decide) (by decide) (by decide) (by decide) (by decide) (by decide) (by decide) (by decide) (by decide) (by decide)]
      exact hP
    · rw [v48 22 (by omega) (by decide), v48 24 (by omega) (by decide), vq 13 (by decide) (by decide) (by decide) (by decide) (by decide) (by decide) (by decide) (by decide) (by decide) (by decide), vq 23 (by decide) (by decide) (by decide) (by decide) (by decide) (by decide) (by decide) (by decide) (by decide) (by decide), vq 66 (by decide) (by decide) (by decide) (by decide) (by decide) (by decide) (by decide) (by decide) (by decide) (by decide), vq 67 (by decide) (by decide) (by decide) (by decide) (by decide) (by decide) (by decide) (by decide) (by decide) (by decide)]
      exact hW
  -- no fault
  obtain ⟨ok, hd0⟩ := hok g0
  obtain ⟨d8, d9, d10, d11, d12, dA⟩ := da g0
  have dA : ∀ k', k' < k → U 25 k' = oc k' ∧ U 26 k' = sh k' ∧ U 27 k' = wd k' := dA
  have ok : OKp N B k nb oc sh wd := ok
  have x13 : X6 13 = X 13 := x6 13 (by decide) (by decide) (by decide) (by decide) (by decide) (by decide)
  have y8 : X6 24 8 = nI (nV (X 2) t (hd1 (X 2) t)) := by rw [x24 24 (by decide) (by decide)]; exact d8
  have y9 : X6 24 9 = nI (nV (X 2) t (hd3 (X 2) t)) := by rw [x24 24 (by decide) (by decide)]; exact d9
  refine s_addAll (P := P) (K := K0) (O := co (X 62) K0) (B := B) hP8 (by rw [x13]; exact p1.trans q2) q3 (by rw [x13]; exact p2.trans q4) (by rw [x13]; exact q8) (by rw [x13]; exact p3.trans q6) ok (by rw [x24 24 (by decide) (by decide)]; exact d10) (by rw [x24 25 (by decide) (by decide), x24 26 (by decide) (by decide), x24 27 (by decide) (by decide)]; exact dA) (fun W ca => ?_)
  rw [y8, y9] at ca
  obtain ⟨a1, a2, a3, a4, a5, a6, a7, a8, a9, a10, a11, a12⟩ := ca
  obtain ⟨S, eS⟩ : ∃ S, S = sX W 13 10 (nI (P + 1)) := ⟨_, rfl⟩
  rw [← eS]
  have s10 : S 13 10 = nI (P + 1) := by rw [eS, sX_eq, pk_us]
  show PX10_page S Y (Kq K (S 13 10 - 1))
  rw [s10, nI_pred]
  have so : ∀ q, q ≠ 13 → S q = W q := fun q hq => by rw [eS, sX_ne hq]
  have sx : ∀ q, q ≠ 0 → q ≠ 1 → q ≠ 24 → q ≠ 25 → q ≠ 26 → q ≠ 27 → (q < 13 ∨ 22 < q) → S q = X q := fun q b1 b2 b3 b4 b5 b6 b7 => by
    rw [so q (by omega), a1 q (by omega) (by omega) (by omega) (by omega) (by omega) (by omega) (by omega) (by omega), sX_ne (by omega), sX_ne (by omega)]
    exact x6 q b1 b2 b3 b4 b5 b6
  have s48 : S 48 = X 48 := sx 48 (by decide) (by decide) (by decide) (by decide) (by decide) (by decide) (by decide)
  intro I111 I138 I220 I211 I167 I168 I263 I359 h111 h138 h220 h211 h167 h168 h263 h359
  have zr : TR X S t := ⟨ht, by rw [s48]; exact t3, z.2.2, by rw [sx 57 (by decide) (by decide) (by decide) (by decide) (by decide) (by decide) (by decide)]; exact t2.symm⟩
  refine r_parse zr n1 (by rw [s48]; exact n2) hs (by rw [sx 50 (by decide) (by decide) (by decide) (by decide) (by decide) (by decide) (by decide)]; exact m3.symm) (by rw [sx 51 (by decide) (by decide) (by decide) (by decide) (by decide) (by decide) (by decide)]; exact m4.symm) q5 (by rw [s48]; exact q6) (by rw [s48, q2]; exact n8) h111 h138 h211 h167 h168 (fun b2 b3 W2 rr hab => ?_)
  rw [eR] at rr hab
  obtain ⟨⟨i', rp⟩, ra⟩ := rr
  obtain ⟨c32, c33, cB, cA⟩ := ra g0
  obtain ⟨eb2, eb3⟩ := hab g0
  have cA : ∀ k', k' < k → W2 68 k' = oc k' ∧ W2 69 k' = sh k' ∧ W2 70 k' = wd k' := cA
  have wx : ∀ q, q ≠ 48 → q ≠ 68 → q ≠ 69 → q ≠ 70 → W2 q = S q := rp.1
  have w48 : ∀ j, j < 27 ∨ 33 < j → W2 48 j = X 48 j := fun j hj => by rw [rp.2.1 j hj, s48]
  apply h220
  unfold BX10_page_220
  have w30 : sX W2 48 12 0 48 30 = nI pf := by
    rw [sX_eq, pk_un (by decide)]
    exact rp.2.2.2.2.1
  have w13 : sX W2 48 12 0 48 13 = nI P := by
    rw [sX_eq, pk_un (by decide), w48 13 (by omega)]
    exact q2
  have el : (nI pf ≤ 0) = (pf ≤ 0) := le_nI (b := 0) (by omega) (by omega)
  rw [w30, el, w13, cl_nI (by omega)]
  refine ⟨fun _ => ⟨vp_in_nI hP8 (by omega), fun X2 e2 => ?_⟩, fun y => absurd (by omega) y⟩
  have u13 : X2 48 13 = nI P := by rw [e2, sX_ne (by decide)]; exact w13
  rw [u13, cl_nI (by omega)]
  refine ⟨vp_in_nI hP8 (by omega), ?_⟩
  obtain ⟨T, eT⟩ : ∃ T, T = sX X2 59 P b3 := ⟨_, rfl⟩
  rw [← eT]
  have tq : ∀ q, q ≠ 48 → q ≠ 58 → q ≠ 59 → T q = W2 q := fun q c1 c2 c3 => by rw [eT, sX_ne c3, e2, sX_ne c2, sX_ne c1]
  have t48 : T 48 = upd (W2 48) 12 0 := by rw [eT, sX_ne (by decide), e2, sX_ne (by decide), sX_eq]
  have t58 : T 58 = upd (X 58) P (nI (nV (X 2) t (hd1 (X 2) t))) := by
    rw [eT, sX_ne (by decide), e2, sX_eq, sX_ne (by decide), eb2, wx 58 (by decide) (by decide) (by decide) (by decide), sx 58 (by decide) (by decide) (by decide) (by decide) (by decide) (by decide) (by decide)]
  have t59 : T 59 = upd (X 59) P (nI (nV (X 2) t (hd3 (X 2) t))) := by
    rw [eT, sX_eq, e2, sX_ne (by decide), sX_ne (by decide), eb3, wx 59 (by decide) (by decide) (by decide) (by decide), sx 59 (by decide) (by decide) (by decide) (by decide) (by decide) (by decide) (by decide)]
  have tw : ∀ j, j < 27 ∨ 33 < j → j ≠ 12 → T 48 j = X 48 j := fun j hj h12 => by rw [t48, pk_un h12]; exact w48 j hj
  refine r_addAll (P := P) (K := K0) (B := B) h263 h359 n1 hP8 (by rw [tw 13 (by omega) (by decide)]; exact q2) q3 (by rw [tw 16 (by omega) (by decide)]; exact q4) (by rw [tw 22 (by omega) (by decide)]; exact q6) ok (by rw [t48, pk_un (by decide)]; exact c32) (by rw [tq 68 (by decide) (by decide) (by decide), tq 69 (by decide) (by decide) (by decide), tq 70 (by decide) (by decide) (by decide)]; exact cA) (fun V rb => kq rfl (hK _ ?_))
  obtain ⟨v1, v2, v3, v4, v5, v6, v7, v8, v9, v10⟩ := rb
  obtain ⟨F, eF⟩ : ∃ F, F = sX V 48 13 (nI (P + 1)) := ⟨_, rfl⟩
  rw [← eF]
  -- the class's cells
  have fS : ∀ q, q < 48 → F q = S q := fun q hq => by
    rw [eF, sX_ne (by omega), v1 q (by omega) (by omega) (by omega) (by omega) (by omega) (by omega) (by omega), tq q (by omega) (by omega) (by omega), wx q (by omega) (by omega) (by omega) (by omega)]
  have fX : ∀ q, 48 < q → (q < 58 ∨ 65 < q) → q ≠ 68 → q ≠ 69 → q ≠ 70 → F q = X q := fun q h1 h2 h3 h4 h5 => by
    rw [eF, sX_ne (by omega), v1 q (by omega) (by omega) (by omega) (by omega) (by omega) (by omega) (by omega), tq q (by omega) (by omega) (by omega), wx q (by omega) (by omega) (by omega) (by omega)]
    exact sx q (by omega) (by omega) (by omega) (by omega) (by omega) (by omega) (by omega)
  have f48 : ∀ j, j ≠ 12 → j ≠ 13 → j ≠ 16 → j ≠ 22 → (j < 27 ∨ 33 < j) → F 48 j = X 48 j := fun j h1 h2 h3 h4 h5 => by
    rw [eF, sX_eq, pk_un h2, v2 j h3 h4]
    exact tw j h5 h1
  have f4812 : F 48 12 = 0 := by rw [eF, sX_eq, pk_un (by decide), v2 12 (by decide) (by decide), t48, pk_us]
  have f4813 : F 48 13 = nI (P + 1) := by rw [eF, sX_eq, pk_us]
  have f4816 : F 48 16 = nI (K0 + k) := by rw [eF, sX_eq, pk_un (by decide)]; exact v3
  have f4822 : F 48 22 = nI (B + cb sh k) := by rw [eF, sX_eq, pk_un (by decide)]; exact v4
  have f4831 : F 48 31 = pw := by
    rw [eF, sX_eq, pk_un (by decide), v2 31 (by decide) (by decide), t48, pk_un (by decide)]
    exact rp.2.2.2.2.2.1
  have f1310 : F 13 10 = nI (P + 1) := by rw [fS 13 (by decide)]; exact s10
  have f13 : ∀ f, f ≠ 10 → F 13 f = W 13 f := fun f hf => by rw [fS 13 (by decide), eS, sX_eq, pk_un hf]
  have f1311 : F 13 11 = nI (K0 + k) := by rw [f13 11 (by decide)]; exact a3
  have f1312 : F 13 12 = nI (co (X 62) K0 + co sh k) := by rw [f13 12 (by decide)]; exact a4
  have f1313 : F 13 13 = nI (B + cb sh k) := by rw [f13 13 (by decide)]; exact a5
  have f1314 : F 13 14 = X 13 14 := by
    rw [f13 14 (by decide), a2 14 (by decide) (by decide) (by decide), sX_ne (by decide), sX_ne (by decide), x13]
  have b6 : ∀ q, 13 < q → q ≤ 22 → X6 q = X q := fun q h1 h2 => x6 q (by omega) (by omega) (by omega) (by omega) (by omega) (by omega)
  have f14 : F 14 = upd (X 58) P (nI (nV (X 2) t (hd1 (X 2) t))) := by
    rw [fS 14 (by decide), so 14 (by decide), a1 14 (by decide) (by decide) (by decide) (by decide) (by decide) (by decide) (by decide) (by decide), sX_ne (by decide), sX_eq, b6 14 (by decide) (by decide), p4]
  have f15 : F 15 = upd (X 59) P (nI (nV (X 2) t (hd3 (X 2) t))) := by
    rw [fS 15 (by decide), so 15 (by decide), a1 15 (by decide) (by decide) (by decide) (by decide) (by decide) (by decide) (by decide) (by decide), sX_eq, sX_ne (by decide), b6 15 (by decide) (by decide), p5]
  have f16 : F 16 = itr (X 60) (fun _ => nI P) K0 k := by
    rw [fS 16 (by decide), so 16 (by decide), a6, sX_ne (by decide), sX_ne (by decide), b6 16 (by decide) (by decide), p6]
  have f17 : F 17 = itr (X 61) oc K0 k := by
    rw [fS 17 (by decide), so 17 (by decide), a7, sX_ne (by decide), sX_ne (by decide), b6 17 (by decide) (by decide), p7]
  have f18 : F 18 = itr (X 62) sh K0 k := by
    rw [fS 18 (by decide), so 18 (by decide), a8, sX_ne (by decide), sX_ne (by decide), b6 18 (by decide) (by decide), p8]
  have f19 : F 19 = itr (X 19) (gO sh (co (X 62) K0)) K0 k := by
    rw [fS 19 (by decide), so 19 (by decide), a9, sX_ne (by decide), sX_ne (by decide), b6 19 (by decide) (by decide)]
  have f20 : F 20 = itr (X 63) (gB sh B) K0 k := by
    rw [fS 20 (by decide), so 20 (by decide), a10, sX_ne (by decide), sX_ne (by decide), b6 20 (by decide) (by decide), p9]
  have f21 : F 21 = itr (X 64) wd K0 k := by
    rw [fS 21 (by decide), so 21 (by decide), a11, sX_ne (by decide), sX_ne (by decide), b6 21 (by decide) (by decide), p10]
  have f22 : F 22 = itp (X 65) sh B K0 k := by
    rw [fS 22 (by decide), so 22 (by decide), a12, sX_ne (by decide), sX_ne (by decide), b6 22 (by decide) (by decide), p11]
  have tX : ∀ q, 60 ≤ q → q ≤ 65 → T q = X q := fun q h1 h2 => by
    rw [tq q (by omega) (by omega) (by omega), wx q (by omega) (by omega) (by omega) (by omega)]
    exact sx q (by omega) (by omega) (by omega) (by omega) (by omega) (by omega) (by omega)
  have f58 : F 58 = upd (X 58) P (nI (nV (X 2) t (hd1 (X 2) t))) := by
    rw [eF, sX_ne (by decide), v1 58 (by decide) (by decide) (by decide) (by decide) (by decide) (by decide) (by decide)]
    exact t58
  have f59 : F 59 = upd (X 59) P (nI (nV (X 2) t (hd3 (X 2) t))) := by
    rw [eF, sX_ne (by decide), v1 59 (by decide) (by decide) (by decide) (by decide) (by decide) (by decide) (by decide)]
    exact t59
  have f60 : F 60 = itr (X 60) (fun _ => nI P) K0 k := by rw [eF, sX_ne (by decide), v5, tX 60 (by decide) (by decide)]
  have f61 : F 61 = itr (X 61) oc K0 k := by rw [eF, sX_ne (by decide), v6, tX 61 (by decide) (by decide)]
  have f62 : F 62 = itr (X 62) sh K0 k := by rw [eF, sX_ne (by decide), v7, tX 62 (by decide) (by decide)]
  have f63 : F 63 = itr (X 63) (gB sh B) K0 k := by rw [eF, sX_ne (by decide), v8, tX 63 (by decide) (by decide)]
  have f64 : F 64 = itr (X 64) wd K0 k := by rw [eF, sX_ne (by decide), v9, tX 64 (by decide) (by decide)]
  have f65 : F 65 = itp (X 65) sh B K0 k := by rw [eF, sX_ne (by decide), v10, tX 65 (by decide) (by decide)]
  -- the picture
  obtain ⟨_, hw1, hn1, hw2, hn2, hs1⟩ := hdP_0 hd0
  have hday := nF_0 hn1
  have hfou := nF_0 hn2
  have base : G1P N (P + 1) K0 B (upd (X 58) P (nI (nV (X 2) t (hd1 (X 2) t)))) (upd (X 59) P (nI (nV (X 2) t (hd3 (X 2) t)))) (X 60) (X 61) (X 62) (X 19) (X 63) (X 64) (X 65) :=
    ⟨n1, by omega, by omega, q5, q7, plt_upd (P := fun _ z => ∃ v, v < 100 ∧ z = nI v) r1 ⟨_, by omega, rfl⟩, plt_upd (P := fun _ z => ∃ v, v < 2 ∧ z = nI v) r2 ⟨_, by omega, rfl⟩, fun j hj => by obtain ⟨v, hv, e⟩ := r3 j hj; exact ⟨v, by omega, e⟩, r4, r5, r6, r7, r8, r9, r10⟩
  obtain ⟨fin, fcb, fco⟩ := base.all (O := co (X 62) K0) rfl q3 ok k (Nat.le_refl k)
  obtain ⟨g1, g2, g3, g4, g5, g6, g7, g8, g9, g10, g11, g12, g13, g14, g15⟩ := fin
  refine inv_pg h ?_ ?_ ?_ ?_ ?_ f4812 (f48 1 (by decide) (by decide) (by decide) (by decide) (by decide)) (f48 9 (by decide) (by decide) (by decide) (by decide) (by decide)) (f48 10 (by decide) (by decide) (by decide) (by decide) (by decide)) ?_ ?_
  · intro q hq
    rcases Nat.lt_or_ge q 48 with y | y
    · rw [fS q y]
      exact sx q (by omega) (by omega) (by omega) (by omega) (by omega) (by omega) (by omega)
    · exact fX q (by omega) (by omega) (by omega) (by omega) (by omega)
  · rw [fS 0 (by decide), so 0 (by decide), a1 0 (by decide) (by decide) (by decide) (by decide) (by decide) (by decide) (by decide) (by decide), sX_ne (by decide), sX_ne (by decide)]
    exact x0 8 (by decide)
  · rw [fS 0 (by decide), so 0 (by decide), a1 0 (by decide) (by decide) (by decide) (by decide) (by decide) (by decide) (by decide) (by decide), sX_ne (by decide), sX_ne (by decide)]
    exact x0 9 (by decide)
  · rw [f4831, fS 0 (by decide), so 0 (by decide), a1 0 (by decide) (by decide) (by decide) (by decide) (by decide) (by decide) (by decide) (by decide), sX_ne (by decide), sX_ne (by decide)]
    exact x010
  · rw [fS 1 (by decide), so 1 (by decide), a1 1 (by decide) (by decide) (by decide) (by decide) (by decide) (by decide) (by decide) (by decide), sX_ne (by decide), sX_ne (by decide)]
    exact x11
  · rw [f48 1 (by decide) (by decide) (by decide) (by decide) (by decide), n2, f1310, f4813, f1311, f4816, f1312, f1313, f4822, f14, f58, f15, f59, f16, f60, f17, f61, f18, f62, f19, f20, f63, f21, f64, f22, f65]
    exact ⟨rfl, rfl, rfl, rfl, rfl, rfl, rfl, rfl, rfl, rfl, rfl, N, P + 1, K0 + k, B + cb sh k, n1, rfl, g2, rfl, g3, rfl, g4, rfl, g5, by rw [fco], g6, g7, g8, g9, g10, g11, g12, g13, g14, g15⟩
  · obtain ⟨w1, Bn, Tn, w2, w3, w4, w5, w6, f, w7, w8, w9⟩ := hW
    have eBn : B = Bn := by
      have := q6.symm.trans w3
      rw [eq_nI (by omega) (by omega)] at this
      exact this
    rw [f4822, f1314, f48 24 (by decide) (by decide) (by decide) (by decide) (by decide), fX 66 (by decide) (by decide) (by decide) (by decide) (by decide), fX 67 (by decide) (by decide) (by decide) (by decide) (by decide), fS 23 (by decide), sx 23 (by decide) (by decide) (by decide) (by decide) (by decide) (by decide) (by decide)]
    refine ⟨w1, B + cb sh k, Tn, g4, rfl, w4, w5, fun kk hk => ?_, f, w7, w8, w9⟩
    obtain ⟨x, y, hx, hy, hxy, e1, e2⟩ := w6 kk hk
    exact ⟨x, y, by omega, by omega, hxy, e1, e2⟩
end PAGE
