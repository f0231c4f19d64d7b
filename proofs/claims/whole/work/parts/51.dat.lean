/-! WHAT THE INVARIANT SAYS of a state Z, number by number; frames of the search -/
def mk (p : Nat → Bool) : Nat → Nat
  | 0 => 0
  | n + 1 => mk p n ||| (if p n then 2 ^ n else 0)
theorem mk_bit (p : Nat → Bool) (i : Nat) : ∀ n, (mk p n).testBit i = (decide (i < n) && p i)
  | 0 => by simp [mk]
  | n + 1 => by
    unfold mk
    rw [Nat.testBit_or, mk_bit p i n]
    by_cases h : i = n
    · subst h
      cases hp : p i <;> simp
    · have h1 : decide (i < n + 1) = decide (i < n) := by
        by_cases h2 : i < n
        · have h3 : i < n + 1 := by omega
          simp [h2, h3]
        · have h3 : ¬ i < n + 1 := by omega
          simp [h2, h3]
      rw [h1]
      have h4 : (if p n = true then 2 ^ n else 0).testBit i = false := by
        split
        · rw [Nat.testBit_two_pow]
          simp
          omega
        · simp
      rw [h4, Bool.or_false]
theorem mk_lt (p : Nat → Bool) : ∀ n, mk p n < 2 ^ n
  | 0 => by simp [mk]
  | n + 1 => by
    unfold mk
    have h1 := mk_lt p n
    have h2 : (2 : Nat) ^ n < 2 ^ (n + 1) := Nat.pow_lt_pow_right (by decide) (by omega)
    refine Nat.or_lt_two_pow (by omega) ?_
    split
    · exact h2
    · exact Nat.two_pow_pos _
def cl (Z : XT) (q j : Nat) : Nat := (Z q j).toNatClampNeg
theorem cl_of {Z : XT} {q j v : Nat} (hv : v < 2147483648) (h : Z q j = nI v) : cl Z q j = v := by
  unfold cl
  rw [h, cl_nI hv]
theorem cl_ex {Z : XT} {q j b : Nat} (hb : b ≤ 2147483648) (h : ∃ v, v < b ∧ Z q j = nI v) : cl Z q j < b ∧ Z q j = nI (cl Z q j) := by
  obtain ⟨v, hv, e⟩ := h
  rw [cl_of (by omega) e]
  exact ⟨hv, e⟩
abbrev dN (Z : XT) : Nat := cl Z 48 1
abbrev dP (Z : XT) : Nat := cl Z 48 13
abbrev dK (Z : XT) : Nat := cl Z 48 16
abbrev dB (Z : XT) : Nat := cl Z 48 22
def dW (Z : XT) (f n : Nat) : Nat := (wsum (Z 49) (Z 50) (Z 51) f n).toNatClampNeg
/-- all but the cells of a search is as in Z -/
def FR (Z X : XT) : Prop := (∀ q, q ≠ 48 → ¬ (71 ≤ q ∧ q ≤ 77) → ¬ (31 ≤ q ∧ q ≤ 47) → X q = Z q) ∧ ∀ j, j < 37 → X 48 j = Z 48 j
theorem FR.refl {Z : XT} : FR Z Z := ⟨fun _ _ _ _ => rfl, fun _ _ => rfl⟩
theorem FR.set {Z X : XT} {q k : Nat} {v : Int32} (h : FR Z X) (hq : (71 ≤ q ∧ q ≤ 77) ∨ (31 ≤ q ∧ q ≤ 47)) : FR Z (sX X q k v) := by
  refine ⟨fun a ha hb hc => ?_, fun j hj => ?_⟩
  · rw [sX_ne (by omega)]
    exact h.1 a ha hb hc
  · rw [sX_ne (by omega)]
    exact h.2 j hj
theorem FR.set48 {Z X : XT} {k : Nat} {v : Int32} (h : FR Z X) (hk : 37 ≤ k) : FR Z (sX X 48 k v) := by
  refine ⟨fun a ha hb hc => ?_, fun j hj => ?_⟩
  · rw [sX_ne ha]
    exact h.1 a ha hb hc
  · rw [sX_eq]
    unfold upd
    rw [if_neg (by omega)]
    exact h.2 j hj
theorem FR.trans {Z X U : XT} (h : FR Z X) (g : FR X U) : FR Z U := ⟨fun q h1 h2 h3 => (g.1 q h1 h2 h3).trans (h.1 q h1 h2 h3), fun j hj => (g.2 j hj).trans (h.2 j hj)⟩
theorem FR.lo {Z X : XT} (h : FR Z X) {q : Nat} (hq : q < 31) : X q = Z q := h.1 q (by omega) (by omega) (by omega)
theorem FR.hi {Z X : XT} (h : FR Z X) {q : Nat} (h1 : 48 < q) (h2 : q < 71) : X q = Z q := h.1 q (by omega) (by omega) (by omega)
/-- only these cells may be others -/
theorem FR.only {Z X : XT} (l : List Nat) (hl : ∀ q ∈ l, (71 ≤ q ∧ q ≤ 77) ∨ (31 ≤ q ∧ q ≤ 47)) (h : ∀ q, q ∉ l → X q = Z q) : FR Z X := by
  refine ⟨fun q h1 h2 h3 => h q (fun hm => ?_), fun j _ => ?_⟩
  · rcases hl q hm with g | g
    · exact h2 g
    · exact h3 g
  · rw [h 48 (fun hm => by have := hl 48 hm; omega)]
theorem inv_FR {Z U : XT} (h : Inv Z) (c : FR Z U) : Inv U := by
  unfold Inv
  rw [c.2 9 (by omega), c.2 10 (by omega), c.2 1 (by omega), c.2 31 (by omega), c.2 12 (by omega), c.2 13 (by omega), c.2 16 (by omega), c.2 22 (by omega), c.2 24 (by omega)]
  rw [c.lo (q := 0) (by omega), c.lo (q := 1) (by omega), c.lo (q := 2) (by omega), c.lo (q := 3) (by omega), c.lo (q := 4) (by omega), c.lo (q := 5) (by omega), c.lo (q := 6) (by omega), c.lo (q := 7) (by omega), c.lo (q := 8) (by omega), c.lo (q := 9) (by omega), c.lo (q := 10) (by omega), c.lo (q := 11) (by omega), c.lo (q := 12) (by omega), c.lo (q := 13) (by omega), c.lo (q := 14) (by omega), c.lo (q := 15) (by omega), c.lo (q := 16) (by omega), c.lo (q := 17) (by omega), c.lo (q := 18) (by omega), c.lo (q := 19) (by omega), c.lo (q := 20) (by omega), c.lo (q := 21) (by omega), c.lo (q := 22) (by omega), c.lo (q := 23) (by omega), c.lo (q := 29) (by omega), c.lo (q := 30) (by omega), c.hi (q := 49) (by omega) (by omega), c.hi (q := 50) (by omega) (by omega), c.hi (q := 51) (by omega) (by omega), c.hi (q := 52) (by omega) (by omega), c.hi (q := 53) (by omega) (by omega), c.hi (q := 54) (by omega) (by omega), c.hi (q := 55) (by omega) (by omega), c.hi (q := 56) (by omega) (by omega), c.hi (q := 57) (by omega) (by omega), c.hi (q := 58) (by omega) (by omega), c.hi (q := 59) (by omega) (by omega), c.hi (q := 60) (by omega) (by omega), c.hi (q := 61) (by omega) (by omega), c.hi (q := 62) (by omega) (by omega), c.hi (q := 63) (by omega) (by omega), c.hi (q := 64) (by omega) (by omega), c.hi (q := 65) (by omega) (by omega), c.hi (q := 66) (by omega) (by omega), c.hi (q := 67) (by omega) (by omega), c.1 78 (by omega) (by omega) (by omega), c.1 79 (by omega) (by omega) (by omega)]
  exact h
section DAT
variable {Z : XT} {j : Nat}
theorem i_N (h : Inv Z) : dN Z ≤ 10 ∧ Z 48 1 = nI (dN Z) := by
  obtain ⟨N, h1, h2, -⟩ := inv_n h
  rw [show dN Z = N from cl_of (by omega) h2]
  exact ⟨h1, h2⟩
theorem i_P (h : Inv Z) : dP Z ≤ 8 ∧ Z 48 13 = nI (dP Z) := by
  obtain ⟨N, P, K', B, m1, m2, m3, m4, -⟩ := inv_place h
  rw [show dP Z = P from cl_of (by omega) m4]
  exact ⟨m3, m4⟩
theorem i_K (h : Inv Z) : dK Z ≤ 32 ∧ Z 48 16 = nI (dK Z) := by
  obtain ⟨N, P, K', B, m1, m2, m3, m4, m5, m6, -⟩ := inv_place h
  rw [show dK Z = K' from cl_of (by omega) m6]
  exact ⟨by omega, m6⟩
theorem i_B (h : Inv Z) : dB Z ≤ 10 ∧ Z 48 22 = nI (dB Z) ∧ dB Z = cb (Z 62) (dK Z) := by
  obtain ⟨N, P, K', B, m1, m2, m3, m4, m5, m6, m7, m8, m9, -⟩ := inv_place h
  rw [show dB Z = B from cl_of (by omega) m8, show dK Z = K' from cl_of (by omega) m6]
  exact ⟨m7, m8, m9⟩
theorem i_sl (h : Inv Z) : cl Z 48 9 ≤ 9 ∧ Z 48 9 = nI (cl Z 48 9) := by
  obtain ⟨-, v, h1, h2⟩ := h.1
  rw [show cl Z 48 9 = v from cl_of (by omega) h2]
  exact ⟨h1, h2⟩
theorem i_kp (h : Inv Z) : cl Z 48 10 < 2 ^ dN Z ∧ Z 48 10 = nI (cl Z 48 10) := by
  obtain ⟨-, N, m, h1, h2, h3, h4⟩ := h.2.1
  have := pow_le_1024 h1 h3
  rw [show cl Z 48 10 = m from cl_of (by omega) h4, show dN Z = N from cl_of (by omega) h2]
  exact ⟨h3, h4⟩
theorem i_dy (h : Inv Z) (hj : j < dP Z) : cl Z 58 j < 100 ∧ Z 58 j = nI (cl Z 58 j) := by
  obtain ⟨N, P, K', B, m1, m2, m3, m4, m5, m6, m7, m8, m9, m10, m11, m12, m13, m14⟩ := inv_place h
  rw [show dP Z = P from cl_of (by omega) m4] at hj
  exact cl_ex (by omega) (m10 j hj)
theorem i_fo (h : Inv Z) (hj : j < dP Z) : cl Z 59 j < 2 ∧ Z 59 j = nI (cl Z 59 j) := by
  obtain ⟨N, P, K', B, m1, m2, m3, m4, m5, m6, m7, m8, m9, m10, m11, m12, m13, m14⟩ := inv_place h
  rw [show dP Z = P from cl_of (by omega) m4] at hj
  exact cl_ex (by omega) (m11 j hj)
theorem i_pg (h : Inv Z) (hj : j < dK Z) : cl Z 60 j < dP Z ∧ Z 60 j = nI (cl Z 60 j) := by
  obtain ⟨N, P, K', B, m1, m2, m3, m4, m5, m6, m7, m8, m9, m10, m11, m12, m13, m14⟩ := inv_place h
  rw [show dK Z = K' from cl_of (by omega) m6] at hj
  rw [show dP Z = P from cl_of (by omega) m4]
  exact cl_ex (by omega) (m12 j hj)
theorem i_oc (h : Inv Z) (hj : j < dK Z) : cl Z 61 j < 4 ∧ Z 61 j = nI (cl Z 61 j) := by
  obtain ⟨N, P, K', B, m1, m2, m3, m4, m5, m6, m7, m8, m9, m10, m11, m12, m13, m14⟩ := inv_place h
  rw [show dK Z = K' from cl_of (by omega) m6] at hj
  exact cl_ex (by omega) (m13 j hj)
theorem i_sh (h : Inv Z) (hj : j < dK Z) : Z 62 j = -1 ∨ (cl Z 62 j < dN Z ∧ Z 62 j = nI (cl Z 62 j)) := by
  obtain ⟨N, P, K', B, m1, m2, m3, m4, m5, m6, m7, m8, m9, m10, m11, m12, m13, m14⟩ := inv_place h
  rw [show dK Z = K' from cl_of (by omega) m6] at hj
  rw [show dN Z = N from cl_of (by omega) m2]
  exact (m14 j hj).imp id (cl_ex (by omega))
theorem nI_ne1 {v : Nat} (hv : v < 2147483648) : ¬ nI v = -1 := by
  intro z
  have := nI_pos (n := v) (by omega)
  rw [z] at this
  exact this (by decide)
theorem i_mono (h : Inv Z) {i : Nat} (hi : i ≤ j) (hj : j < dK Z) : cl Z 60 i ≤ cl Z 60 j := by
  obtain ⟨p1, p2, p3, p4, p5, p6, p7, p8, p9, p10, p11, M, P, KK, B, m1, m2, m3, m4, m5, m6, m7, m8, m9, m10, m11, m12, m13, m14, m15, m16, m17⟩ := id h.2.2.2.2.2.2.2.1
  have hk : dK Z = KK := cl_of (by omega) m6
  have := m14 i j hi (by omega)
  obtain ⟨a, ha, ea⟩ := m13 i (by omega)
  obtain ⟨b, hb, eb⟩ := m13 j (by omega)
  rw [ea, eb, le_nI (by omega) (by omega)] at this
  rw [cl_of (by omega) ea, cl_of (by omega) eb]
  exact this
theorem i_ba (h : Inv Z) (hj : j < dK Z) : (Z 63 j = if Z 62 j = -1 then nI (cb (Z 62) j) else -1) ∧ (Z 19 j = if Z 62 j = -1 then -1 else nI (co (Z 62) j)) ∧ Z 13 12 = nI (co (Z 62) (dK Z)) := by
  obtain ⟨p1, p2, p3, p4, p5, p6, p7, p8, p9, p10, p11, M, P, KK, B, m1, m2, m3, m4, m5, m6, m7, m8, m9, m10, m11, m12, m13, m14, m15, m16, m17, m18, m19, m20⟩ := id h.2.2.2.2.2.2.2.1
  have hk : dK Z = KK := cl_of (by omega) m6
  rw [hk] at hj ⊢
  exact ⟨m17 j hj, m18 j hj, m10⟩
theorem i_op (h : Inv Z) : Z 13 12 = nI (co (Z 62) (dK Z)) := by
  obtain ⟨p1, p2, p3, p4, p5, p6, p7, p8, p9, p10, p11, M, P, KK, B, m1, m2, m3, m4, m5, m6, m7, m8, m9, m10, m11, m12, m13, m14, m15, m16, m17, m18, m19, m20⟩ := id h.2.2.2.2.2.2.2.1
  have hk : dK Z = KK := cl_of (by omega) m6
  rw [hk]
  exact m10
theorem i_bw (h : Inv Z) (hj : j < dK Z) : cl Z 64 j < 201 ∧ Z 64 j = nI (cl Z 64 j) := by
  obtain ⟨p1, p2, p3, p4, p5, p6, p7, p8, p9, p10, p11, M, P, KK, B, m1, m2, m3, m4, m5, m6, m7, m8, m9, m10, m11, m12, m13, m14, m15, m16, m17, m18, m19, m20⟩ := id h.2.2.2.2.2.2.2.1
  have hk : dK Z = KK := cl_of (by omega) m6
  rw [hk] at hj
  obtain ⟨v, hv, e⟩ := m19 j hj
  exact cl_ex (by omega) ⟨v, by omega, e⟩
theorem i_po (h : Inv Z) (hj : j < dB Z) : cl Z 65 j < dK Z ∧ Z 65 j = nI (cl Z 65 j) ∧ Z 62 (cl Z 65 j) = -1 ∧ cb (Z 62) (cl Z 65 j) = j := by
  obtain ⟨p1, p2, p3, p4, p5, p6, p7, p8, p9, p10, p11, M, P, KK, B, m1, m2, m3, m4, m5, m6, m7, m8, m9, m10, m11, m12, m13, m14, m15, m16, m17, m18, m19, m20⟩ := id h.2.2.2.2.2.2.2.1
  have hk : dK Z = KK := cl_of (by omega) m6
  rw [show dB Z = B from cl_of (by omega) m8] at hj
  obtain ⟨i, hi, e1, e2, e3⟩ := m20 j hj
  rw [cl_of (by omega) e1, hk]
  exact ⟨hi, e1, e2, e3⟩
theorem i_ho (h : Inv Z) : cl Z 52 j < 16 ∧ Z 52 j = nI (cl Z 52 j) := cl_ex (by omega) (h.2.2.2.2.2.1.2.2.2.2.1 j)
theorem i_si (h : Inv Z) : cl Z 53 j < 100 ∧ Z 53 j = nI (cl Z 53 j) := cl_ex (by omega) (h.2.2.2.2.2.1.2.2.2.2.2.1 j)
theorem i_un (h : Inv Z) : cl Z 54 j < 100 ∧ Z 54 j = nI (cl Z 54 j) := cl_ex (by omega) (h.2.2.2.2.2.1.2.2.2.2.2.2.1 j)
theorem i_wt (h : Inv Z) (hj : j < dN Z) : 1 ≤ cl Z 55 j ∧ cl Z 55 j < 10 ∧ Z 55 j = nI (cl Z 55 j) := by
  obtain ⟨g1, g2, g3, g4, g5, g6, g7, g8, M, g9, g10, g11⟩ := h.2.2.2.2.2.1
  rw [show dN Z = M from cl_of (by omega) g10] at hj
  obtain ⟨v, h1, h2, e⟩ := g11 j hj
  rw [cl_of (by omega) e]
  exact ⟨h1, by omega, e⟩
theorem i_nv (h : Inv Z) : cl Z 56 j < 2 ^ dN Z ∧ Z 56 j = nI (cl Z 56 j) := by
  obtain ⟨h1, h2⟩ := i_N h
  obtain ⟨-, f, e, l, -⟩ := inv_v h h1 h2
  have := pow_le_1024 h1 (l j)
  rw [cl_of (by omega) (e j)]
  exact ⟨l j, e j⟩
theorem i_nvs (h : Inv Z) (i j : Nat) : (cl Z 56 i).testBit j = (cl Z 56 j).testBit i := by
  obtain ⟨h1, h2⟩ := i_N h
  obtain ⟨-, f, e, l, s⟩ := inv_v h h1 h2
  have := pow_le_1024 h1 (l j)
  have := pow_le_1024 h1 (l i)
  rw [cl_of (by omega) (e j), cl_of (by omega) (e i)]
  exact s i j
theorem i_aw (h : Inv Z) : cl Z 78 j < 2 ^ dN Z ∧ Z 78 j = nI (cl Z 78 j) := by
  obtain ⟨r1, r2, N, r3, r4, r5, r6⟩ := h.2.2.2.2.2.2.2.2.2
  obtain ⟨m, hm, e⟩ := r5 j
  have := pow_le_1024 r3 hm
  rw [show dN Z = N from cl_of (by omega) r4, cl_of (by omega) e]
  exact ⟨hm, e⟩
theorem i_kn (h : Inv Z) (hj : j < 40) : Z 79 j = -1 ∨ (cl Z 79 j < dN Z ∧ Z 79 j = nI (cl Z 79 j)) := by
  obtain ⟨r1, r2, N, r3, r4, r5, r6⟩ := h.2.2.2.2.2.2.2.2.2
  rw [show dN Z = N from cl_of (by omega) r4]
  exact (r6 j hj).imp id (cl_ex (by omega))
theorem i_tw (h : Inv Z) : cl Z 23 j < 1024 ∧ Z 23 j = nI (cl Z 23 j) := by
  obtain ⟨w1, B, T, w2, w3, w4, w5, w6, f, w7, w8, w9⟩ := h.2.2.2.2.2.2.2.2.1
  have := w8 j
  rw [cl_of (by omega) (w7 j)]
  exact ⟨w8 j, w7 j⟩
theorem i_T (h : Inv Z) : cl Z 48 24 ≤ 10 ∧ Z 48 24 = nI (cl Z 48 24) := by
  obtain ⟨w1, B, T, w2, w3, w4, w5, w6, f, w7, w8, w9⟩ := h.2.2.2.2.2.2.2.2.1
  rw [cl_of (by omega) w5]
  exact ⟨w4, w5⟩
theorem i_prd (h : Inv Z) {i : Nat} (hi : i < dB Z) (hj : j < dB Z) : (cl Z 23 i).testBit j = true ↔ prd (Z 66) (Z 67) (cl Z 48 24) i j := by
  obtain ⟨w1, B, T, w2, w3, w4, w5, w6, f, w7, w8, w9⟩ := h.2.2.2.2.2.2.2.2.1
  rw [show dB Z = B from cl_of (by omega) w3] at hi hj
  have := w8 i
  rw [cl_of (by omega) (w7 i), cl_of (by omega) w5]
  exact w9 i j (by omega) (by omega)
theorem wsumN_lt {w l : Nat → Int32} {f n : Nat} (hf : f < 2) (hw : ∀ j, j < 52 → ∃ v, 1 ≤ v ∧ v ≤ 20 ∧ w j = nI v) (hl : ∀ j, ∃ v, v < 26 ∧ l j = nI v) : ∀ k, ∃ v, v ≤ 20 * k ∧ wsumN w l f n k = nI v
  | 0 => ⟨0, by omega, rfl⟩
  | k + 1 => by
    obtain ⟨v, h1, e⟩ := wsumN_lt (n := n) hf hw hl k
    obtain ⟨c, h2, e2⟩ := hl (12 * n + k)
    obtain ⟨u, h3, h4, e3⟩ := hw (26 * f + c) (by omega)
    refine ⟨v + u, by omega, ?_⟩
    unfold wsumN
    rw [e, e2, cl_nI (by omega), e3, nI_add]
theorem i_W (h : Inv Z) {f n : Nat} (hf : f < 2) : dW Z f n < 241 ∧ wsum (Z 49) (Z 50) (Z 51) f n = nI (dW Z f n) := by
  obtain ⟨n1, n2, n3, n4, N', n5, n6, n7, n8, n9, n10, n11⟩ := h.2.2.2.2.1
  obtain ⟨m, hm, e⟩ := n9 n
  unfold dW wsum
  rw [e, cl_nI (by omega)]
  obtain ⟨v, hv, e2⟩ := wsumN_lt (n := n) hf n7 n8 m
  rw [e2, cl_nI (by omega)]
  exact ⟨by omega, rfl⟩
theorem i_Wc (h : Inv Z) {f n : Nat} (hf : f < 2) (hn : n < dN Z) : Z 7 (10 * f + n) = nI (dW Z f n) := by
  obtain ⟨n1, n2, n3, n4, N', n5, n6, n7, n8, n9, n10, n11⟩ := id h.2.2.2.2.1
  rw [show dN Z = N' from cl_of (by omega) n6] at hn
  rw [n11 f n hf hn]
  exact (i_W h hf).2
theorem c_n (h : Inv Z) : Z 3 9 = Z 48 1 := h.2.2.2.2.1.1
theorem c_P (h : Inv Z) : Z 13 10 = Z 48 13 := h.2.2.2.2.2.2.2.1.1
theorem c_K (h : Inv Z) : Z 13 11 = Z 48 16 := h.2.2.2.2.2.2.2.1.2.1
theorem c_B (h : Inv Z) : Z 13 13 = Z 48 22 := h.2.2.2.2.2.2.2.1.2.2.1
theorem c_14 (h : Inv Z) : Z 14 = Z 58 := h.2.2.2.2.2.2.2.1.2.2.2.1
theorem c_15 (h : Inv Z) : Z 15 = Z 59 := h.2.2.2.2.2.2.2.1.2.2.2.2.1
theorem c_16 (h : Inv Z) : Z 16 = Z 60 := h.2.2.2.2.2.2.2.1.2.2.2.2.2.1
theorem c_17 (h : Inv Z) : Z 17 = Z 61 := h.2.2.2.2.2.2.2.1.2.2.2.2.2.2.1
theorem c_18 (h : Inv Z) : Z 18 = Z 62 := h.2.2.2.2.2.2.2.1.2.2.2.2.2.2.2.1
theorem c_20 (h : Inv Z) : Z 20 = Z 63 := h.2.2.2.2.2.2.2.1.2.2.2.2.2.2.2.2.1
theorem c_21 (h : Inv Z) : Z 21 = Z 64 := h.2.2.2.2.2.2.2.1.2.2.2.2.2.2.2.2.2.1
theorem c_22 (h : Inv Z) : Z 22 = Z 65 := h.2.2.2.2.2.2.2.1.2.2.2.2.2.2.2.2.2.2.1
theorem c_8 (h : Inv Z) : Z 8 = Z 52 := h.2.2.2.2.2.1.1
theorem c_9 (h : Inv Z) : Z 9 = Z 53 := h.2.2.2.2.2.1.2.1
theorem c_10 (h : Inv Z) : Z 10 = Z 54 := h.2.2.2.2.2.1.2.2.1
theorem c_11 (h : Inv Z) : Z 11 = Z 55 := h.2.2.2.2.2.1.2.2.2.1
theorem c_12 (h : Inv Z) : Z 12 = Z 56 := h.2.2.2.2.2.2.1.1
theorem c_29 (h : Inv Z) : Z 29 = Z 78 := h.2.2.2.2.2.2.2.2.2.1
theorem c_30 (h : Inv Z) : Z 30 = Z 79 := h.2.2.2.2.2.2.2.2.2.2.1
theorem c_sl (h : Inv Z) : Z 0 8 = Z 48 9 := h.1.1
theorem c_kp (h : Inv Z) : Z 0 9 = Z 48 10 := h.2.1.1
end DAT
