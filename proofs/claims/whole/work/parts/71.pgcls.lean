/-! page: the class's number, place, loop -/
theorem eof_s {b : Nat → Int32} {d i : Nat} : eof b (d + 1) i = if isFb (b i) = true then eof b d (i + 1) else i := rfl
theorem nval_lt {b : Nat → Int32} {s : Nat} (hb : ∀ j, ∃ c, c < 256 ∧ b j = nI c) {k : Nat} (hk : k ≤ 3) : nval b s k < 30000 := by
  have hd : ∀ j, (b j).toNatClampNeg - 48 ≤ 207 := fun j => by
    obtain ⟨c, hc, e⟩ := hb j
    rw [e, cl_nI (by omega)]
    omega
  have h0 := hd (s + 0)
  have h1 := hd (s + 1)
  have h2 := hd (s + 2)
  rcases (by omega : k = 0 ∨ k = 1 ∨ k = 2 ∨ k = 3) with e | e | e | e <;> subst e <;> simp only [nval] <;> omega
theorem wE_sk {b : Nat → Int32} {t i : Nat} (h : i ≤ t) : wE b t (sk b t i) = wE b t i := by
  unfold wE
  rw [sk_sk h]
theorem wF_sk {b : Nat → Int32} {t i n : Nat} (h : i ≤ t) : wF b t n (sk b t i) = wF b t n i := by
  unfold wF
  rw [wE_sk h, sk_sk h]
theorem fl_0 (k w : Nat) : fl (0, -1) k w = (k, nI w) := by simp [fl]
theorem fl_st {p : Nat × Int32} {k w : Nat} (h : ¬ p.1 = 0) : fl p k w = p := by
  unfold fl
  rw [if_neg h]
theorem flF_st {p : Nat × Int32} {f : Nat × Nat} (h : ¬ p.1 = 0) : flF p f = p := by
  unfold flF
  rw [fl_st h]
  split <;> rfl
theorem flF_0 {p : Nat × Int32} {f : Nat × Nat} (h : f.1 = 0) : flF p f = p := by
  unfold flF
  rw [if_pos h]
theorem flF_1 {f : Nat × Nat} (h : ¬ f.1 = 0) : flF (0, -1) f = (f.1, nI f.2) := by
  unfold flF
  rw [if_neg h, fl_0]
theorem flF_z {p : Nat × Int32} {f : Nat × Nat} : (flF p f).1 = 0 ↔ p.1 = 0 ∧ f.1 = 0 := by
  by_cases h : p.1 = 0
  · by_cases g : f.1 = 0
    · rw [flF_0 g]
      simp [h, g]
    · unfold flF fl
      rw [if_neg g, if_pos h]
      simp [g]
  · rw [flF_st h]
    simp [h]
theorem flF_zz {p : Nat × Int32} {f : Nat × Nat} (h : (flF p f).1 = 0) : flF p f = p := flF_0 (flF_z.mp h).2
/-- a place: its fault (0: none), where it ends, its office, name, width -/
def pj (b : Nat → Int32) (t i : Nat) : Nat := sk b t (nE b t (wE b t i))
def plQ (b : Nat → Int32) (t i k : Nat) : Nat × Int32 := flF (flF (flF (0, -1) (wF b t 2 i)) (if k < 4 then (0, 0) else (4, sk b t i))) (nF b t 0 3 (wE b t i))
def nmA (Z : XT) (t N j : Nat) : Int32 := fst (isN (Z 5) (Z 6) (Z 2) j (eow (Z 2) (t - j) j - j)) N 0
def bjF (b : Nat → Int32) (t j : Nat) : Nat × Int32 := flF (flF (0, -1) (nF b t 1 200 (j + 1))) (sF b t 93 (nE b t (j + 1)))
def tkn (sh : Nat → Int32) (x : Int32) : Nat → Bool
  | 0 => false
  | k + 1 => tkn sh x k || decide (sh k = x)
theorem tkn_iff {sh : Nat → Int32} {x : Int32} : ∀ {k}, tkn sh x k = true ↔ ∃ k', k' < k ∧ sh k' = x
  | 0 => ⟨fun h => absurd (show (false : Bool) = true from h) (by decide), fun ⟨_, h, _⟩ => absurd h (by omega)⟩
  | k + 1 => by
    unfold tkn
    rw [Bool.or_eq_true, tkn_iff, decide_eq_true_iff]
    constructor
    · rintro (⟨k', h1, h2⟩ | h)
      · exact ⟨k', by omega, h2⟩
      · exact ⟨k, by omega, h⟩
    · rintro ⟨k', h1, h2⟩
      by_cases e : k' = k
      · subst e
        exact Or.inr h2
      · exact Or.inl ⟨k', by omega, h2⟩
def plF (Z : XT) (t N i k nb : Nat) (sh : Nat → Int32) : Nat × Int32 :=
  if (plQ (Z 2) t i k).1 = 0 then
    (if chr (Z 2) t (pj (Z 2) t i) = 91 then (if 10 ≤ nb then (5, nI (pj (Z 2) t i)) else bjF (Z 2) t (pj (Z 2) t i))
    else if pj (Z 2) t i < t ∧ isLb (Z 2 (pj (Z 2) t i)) = true then (if nmA Z t N (pj (Z 2) t i) = -1 ∨ tkn sh (nmA Z t N (pj (Z 2) t i)) k = true then (3, nI (pj (Z 2) t i)) else (0, -1))
    else (1, nI (pj (Z 2) t i)))
  else plQ (Z 2) t i k
def plE (Z : XT) (t i : Nat) : Nat := if chr (Z 2) t (pj (Z 2) t i) = 91 then sE (Z 2) t 93 (nE (Z 2) t (pj (Z 2) t i + 1)) else eow (Z 2) (t - pj (Z 2) t i) (pj (Z 2) t i)
def plO (Z : XT) (t i : Nat) : Nat := nV (Z 2) t (wE (Z 2) t i)
def plS (Z : XT) (t N i : Nat) : Int32 := if chr (Z 2) t (pj (Z 2) t i) = 91 then -1 else nmA Z t N (pj (Z 2) t i)
def plW (Z : XT) (t i : Nat) : Int32 := if chr (Z 2) t (pj (Z 2) t i) = 91 then nI (nV (Z 2) t (pj (Z 2) t i + 1)) else 0
def plB (Z : XT) (t i nb : Nat) : Nat := if chr (Z 2) t (pj (Z 2) t i) = 91 then nb + 1 else nb
theorem plQ_0 {b : Nat → Int32} {t i k : Nat} (h : (plQ b t i k).1 = 0) : plQ b t i k = (0, -1) ∧ k < 4 ∧ (wF b t 2 i).1 = 0 ∧ (nF b t 0 3 (wE b t i)).1 = 0 := by
  have h1 := flF_z.mp h
  have h2 := flF_z.mp h1.1
  have h3 := flF_z.mp h2.1
  refine ⟨?_, ?_, h3.2, h1.2⟩
  · unfold plQ
    rw [flF_0 h1.2, flF_0 h2.2, flF_0 h3.2]
  · by_cases g : k < 4
    · exact g
    · have := h2.2
      rw [if_neg g] at this
      exact absurd this (by show ¬ 4 = 0; omega)
theorem n91 {x : Int32} (h : isLb x = true) : ¬ x = 91 := by
  intro e
  subst e
  exact absurd (isLb_iff.mp h) (by decide)
section CPLACE
variable {Z X : XT} {Y : YT} {Q : Int32 → XT → YT → Prop} {QV : XT → YT → Prop} {t i N : Nat} {p : Nat × Int32}
theorem eq_isFigure (hi : i < 1000) (ht : t ≤ 120) (h : X 1 1 = nI t) : PX8_isFigure (nI i) X Y Q = Q (bI (i < t ∧ isFb (X 2 i) = true)) X Y := by
  unfold PX8_isFigure BX8_isFigure_s
  rw [eq_at hi ht h, eq_within]
  simp only [bI_nar, true_and]
  refine congrArg (fun z => Q z X Y) (bI_congr ?_)
  rw [isFb_iff]
  by_cases h1 : i < t
  · simp [h1]
  · simp only [h1, if_false, false_and, iff_false]
    decide
theorem CP.oth (h : CP Z t i p X) {U : XT} (h1 : ∀ q, q ≠ 24 → q ≠ 25 → q ≠ 26 → q ≠ 27 → U q = X q) (h5 : U 24 5 = X 24 5) (h6 : U 24 6 = X 24 6) (h7 : U 24 7 = X 24 7) : CP Z t i p U :=
  ⟨fun q a b c d => (h1 q a b c d).trans (h.1 q a b c d), h5.trans h.2.1, h.2.2.1, h6.trans h.2.2.2.1, h7.trans h.2.2.2.2.1, h.2.2.2.2.2⟩
theorem CP.t1 (z : TZ Z t) (h : CP Z t i p X) : X 1 1 = nI t := by
  rw [h.1 1 (by decide) (by decide) (by decide) (by decide)]
  exact z.2.1
theorem s_num (z : TZ Z t) (h : CP Z t i p X) {lo hi : Nat} (hlo : lo < 1000) (hhi : hi < 1000) (hq : ∀ U, CP Z t (nE (Z 2) t i) (flF p (nF (Z 2) t lo hi i)) U → F3 X U → Q (nI (nV (Z 2) t i)) U Y) : PX2_takeNumber (nI lo) (nI hi) X Y Q := by
  intro I12 I85 I125 h12 h85 h125
  have ht := z.1
  have hsk := sk_le (b := Z 2) h.2.2.1
  have hne := nE_le (b := Z 2) h.2.2.1
  have hvl : nV (Z 2) t i < 30000 := nval_lt z.2.2 (by omega)
  unfold BX2_takeNumber_s
  refine s_skip z h (fun U0 c0 f0 w5 hw5 => ?_)
  rw [hw5, c0.2.1]
  have fin : ∀ U, CP Z t (nE (Z 2) t i) p U → F3 X U → I85 (nI lo) (nI hi) (nI (sk (Z 2) t i)) (nI (nV (Z 2) t i)) U Y := by
    intro U c f
    apply h85
    unfold BX2_takeNumber_85
    unfold nF at hq
    rw [c.2.1, eq_nI (by omega) (by omega)]
    refine ⟨fun g => ?_, fun g => ?_⟩
    · rw [if_neg g] at hq
      have bad : (3 < nE (Z 2) t i - sk (Z 2) t i ∨ ¬ (lo ≤ nV (Z 2) t i ∧ nV (Z 2) t i ≤ hi)) → I125 (nI (sk (Z 2) t i)) (nI (nV (Z 2) t i)) U Y := by
        intro gb
        rw [if_pos gb, flF_yes (by omega)] at hq
        apply h125
        unfold BX2_takeNumber_125
        exact s_fail (k := 2) c (by omega) (fun W c' f' => hq W c' (f.trans f'))
      rw [pk_sub hne.1, i_lt, show (3 : Int32) = nI 3 from rfl, le_nI (by omega) (by omega)]
      refine ⟨fun g3 => bad (Or.inl (by omega)), fun g3 => ?_⟩
      rw [eq_within]
      simp only [bI_0]
      rw [le_nI (by omega) (by omega), le_nI (by omega) (by omega)]
      refine ⟨fun g4 => ?_, fun g4 => bad (Or.inr g4)⟩
      have gn : ¬ (3 < nE (Z 2) t i - sk (Z 2) t i ∨ ¬ (lo ≤ nV (Z 2) t i ∧ nV (Z 2) t i ≤ hi)) := fun y => y.elim (fun y => g3 (by omega)) g4
      rw [if_neg gn, flF_no] at hq
      exact hq U c f
    · rw [if_pos g, flF_yes (by omega)] at hq
      rw [g]
      exact s_fail (k := 1) c (by omega) (fun W c' f' => hq W c' (f.trans f'))
  have key : ∀ d m U, t - (sk (Z 2) t i + m) = d → sk (Z 2) t i + m ≤ t → CP Z t (sk (Z 2) t i + m) p U → F3 X U → eof (Z 2) d (sk (Z 2) t i + m) = nE (Z 2) t i → I12 (nI lo) (nI hi) (nI (sk (Z 2) t i)) (nI (nval (Z 2) (sk (Z 2) t i) (min 3 m))) U Y := by
    intro d
    induction d with
    | zero =>
      intro m U hd hm c f he
      have he : sk (Z 2) t i + m = nE (Z 2) t i := he
      have hv : nval (Z 2) (sk (Z 2) t i) (min 3 m) = nV (Z 2) t i := by
        unfold nV
        rw [show nE (Z 2) t i - sk (Z 2) t i = m by omega]
      apply h12
      unfold BX2_takeNumber_12
      rw [c.t1 z, c.2.1, le_nI (by omega) (by omega)]
      refine ⟨fun _ => ?_, fun g => absurd (by omega) g⟩
      rw [hv]
      rw [he] at c
      exact fin U c f
    | succ d ih =>
      intro m U hd hm c f he
      rw [eof_s] at he
      apply h12
      unfold BX2_takeNumber_12
      rw [c.t1 z, c.2.1, le_nI (by omega) (by omega)]
      refine ⟨fun g => absurd g (by omega), fun _ => ?_⟩
      rw [eq_isFigure (t := t) (by omega) ht (c.t1 z), c.1 2 (by decide) (by decide) (by decide) (by decide)]
      simp only [bI_0]
      by_cases hf : isFb (Z 2 (sk (Z 2) t i + m)) = true
      · rw [if_pos hf] at he
        refine ⟨fun g => absurd ⟨by omega, hf⟩ g, fun _ => ?_⟩
        have ec : chr (Z 2) t (sk (Z 2) t i + m) = Z 2 (sk (Z 2) t i + m) := by unfold chr; rw [if_pos (by omega)]
        rw [c.2.1, pk_sub (by omega), show (3 : Int32) = nI 3 from rfl, le_nI (by omega) (by omega), nI_1, eq_chr z c (by omega), ec, c.2.1, nI_1]
        refine ⟨fun g => ?_, fun g w12 e12 => ?_⟩
        · have := ih (m + 1) _ (by omega) (by omega) (c.to (j := sk (Z 2) t i + m + 1) (by omega)) (f.trans F3.to) he
          rw [show min 3 (m + 1) = min 3 m by omega] at this
          exact this
        · have := ih (m + 1) _ (by omega) (by omega) (c.to (j := sk (Z 2) t i + m + 1) (by omega)) (f.trans F3.to) he
          obtain ⟨c0, c1, c2, e0⟩ := fig (z.2.2 _) hf
          have hv : nI (nval (Z 2) (sk (Z 2) t i) (min 3 m)) * 10 + Z 2 (sk (Z 2) t i + m) - 48 = nI (nval (Z 2) (sk (Z 2) t i) (min 3 (m + 1))) := by
            rw [e0, mul10, show (48 : Int32) = nI 48 from rfl, pk_sub (by omega), show min 3 m = m by omega, show min 3 (m + 1) = m + 1 by omega]
            show _ = nI (10 * nval (Z 2) (sk (Z 2) t i) m + ((Z 2 (sk (Z 2) t i + m)).toNatClampNeg - 48))
            rw [e0, cl_nI (by omega)]
            congr 1
            omega
          rw [e12, hv]
          exact this
      · rw [if_neg hf] at he
        have hv : nval (Z 2) (sk (Z 2) t i) (min 3 m) = nV (Z 2) t i := by
          unfold nV
          rw [show nE (Z 2) t i - sk (Z 2) t i = m by omega]
        refine ⟨fun _ => ?_, fun g => absurd (fun y => hf y.2) g⟩
        rw [hv]
        rw [he] at c
        exact fin U c f
  have := key (t - sk (Z 2) t i) 0 U0 rfl (by omega) c0 f0 rfl
  rw [show min 3 0 = 0 by omega] at this
  exact this
theorem s_comma (z : TZ Z t) (h : CP Z t i p X) (q1 : sk (Z 2) t i < t → ∀ U, CP Z t (sE (Z 2) t 44 (sk (Z 2) t i)) (flF p (sF (Z 2) t 44 (sk (Z 2) t i))) U → F3 X U → Q 1 U Y) (q0 : ¬ sk (Z 2) t i < t → ∀ U, CP Z t (sk (Z 2) t i) p U → F3 X U → Q 0 U Y) : PX2_takeComma X Y Q := by
  have ht := z.1
  have hsk := sk_le (b := Z 2) h.2.2.1
  unfold PX2_takeComma BX2_takeComma_s
  refine s_skip z h (fun U c f => ?_)
  rw [c.t1 z, c.2.1, i_lt, le_nI (by omega) (by omega)]
  refine ⟨fun g => ?_, fun g => q0 (by omega) U c f⟩
  exact s_sign z c (by decide) (fun W c' f' => q1 (by omega) W c' (f.trans f'))
/-- what stands in the parser of the places so far -/
def DA (k nb : Nat) (oc sh wd : Nat → Int32) (dd ff : Int32) (X : XT) : Prop :=
  X 24 8 = dd ∧ X 24 9 = ff ∧ X 24 10 = nI k ∧ X 24 11 = nI nb ∧ (∃ m, m < 1024 ∧ X 24 12 = nI m ∧ ∀ n, n < 10 → (m.testBit n = true ↔ ∃ k', k' < k ∧ sh k' = nI n)) ∧ ∀ k', k' < k → X 25 k' = oc k' ∧ X 26 k' = sh k' ∧ X 27 k' = wd k'
theorem DA.f3 {k nb : Nat} {oc sh wd : Nat → Int32} {dd ff : Int32} {U : XT} (h : DA k nb oc sh wd dd ff X) (f : F3 X U) : DA k nb oc sh wd dd ff U := by
  obtain ⟨h1, h2, h3, h4, h5, h6⟩ := h
  refine ⟨?_, ?_, ?_, ?_, ?_, ?_⟩
  · rw [f.2 8 (by decide) (by decide) (by decide)]; exact h1
  · rw [f.2 9 (by decide) (by decide) (by decide)]; exact h2
  · rw [f.2 10 (by decide) (by decide) (by decide)]; exact h3
  · rw [f.2 11 (by decide) (by decide) (by decide)]; exact h4
  · rw [f.2 12 (by decide) (by decide) (by decide)]; exact h5
  · rw [f.1 25 (by decide), f.1 26 (by decide), f.1 27 (by decide)]; exact h6
theorem s_shown (z : TZ Z t) (hN : N ≤ 10) (hn : Z 3 9 = nI N) (hs : ∀ j, ∃ v, v ≤ 12 ∧ Z 6 j = nI v) {j k m : Nat} (c : CP Z t j (0, -1) X) (hj : j < t) (hk : k < 4) (hm : m < 1024) (em : X 24 12 = nI m)
    (q1 : ∀ U, CP Z t j (3, nI j) U → (nmA Z t N j = -1 ∨ ∃ n, n < 10 ∧ nmA Z t N j = nI n ∧ m.testBit n = true) → QV U Y)
    (q2 : ∀ n, n < N → nmA Z t N j = nI n → m.testBit n = false → QV (sX (sX (sX (sX X 24 12 (nI (m ||| 2 ^ n))) 26 k (nI n)) 27 k 0) 24 5 (nI (eow (Z 2) (t - j) j))) Y) : PX2_takeShown (nI k) X Y QV := by
  intro I45 h45
  have ht := z.1
  have hle := eow_le (Z 2) (t - j) j
  have bad : (nmA Z t N j = -1 ∨ ∃ n, n < 10 ∧ nmA Z t N j = nI n ∧ m.testBit n = true) → I45 X Y := by
    intro g
    apply h45
    unfold BX2_takeShown_45
    rw [c.2.1]
    refine s_fail (k := 3) c (by omega) (fun W c' f' => ?_)
    rw [fl_0] at c'
    exact q1 W c' g
  unfold BX2_takeShown_s
  rw [c.2.1]
  refine s_endOfWord ht (c.t1 z) (by omega) ?_
  rw [c.1 2 (by decide) (by decide) (by decide) (by decide), c.2.1]
  refine s_find (t := t) (N := N) ht (c.t1 z) hN (by rw [c.1 3 (by decide) (by decide) (by decide) (by decide)]; exact hn) (by rw [c.1 6 (by decide) (by decide) (by decide) (by decide)]; exact hs) hle.1 (by omega) ?_
  rw [c.1 5 (by decide) (by decide) (by decide) (by decide), c.1 6 (by decide) (by decide) (by decide) (by decide), c.1 2 (by decide) (by decide) (by decide) (by decide)]
  rw [show fst (isN (Z 5) (Z 6) (Z 2) j (eow (Z 2) (t - j) j - j)) N 0 = nmA Z t N j from rfl]
  refine ⟨fun g => bad (Or.inl g), fun g => ?_⟩
  rcases fst_or (isN (Z 5) (Z 6) (Z 2) j (eow (Z 2) (t - j) j - j)) N 0 with e | ⟨n, _, hnN, _, e⟩
  · exact absurd e g
  · have e : nmA Z t N j = nI n := e
    rw [e, eq_has, em]
    simp only [bI_0, Classical.not_not, bx_bit0 (show m < 2147483648 by omega) (show n < 32 by omega)]
    refine ⟨fun hb X15 e15 => ⟨vp_in_nI hk (by omega), vp_in_nI hk (by omega), fun X17 e17 => ?_⟩, fun hb => bad (Or.inr ⟨n, by omega, e, ?_⟩)⟩
    · rw [e17, e15, bx_1shl (by omega), bx_or, cl_nI (by omega)]
      exact q2 n (by omega) e hb
    · cases hh : m.testBit n with
      | true => rfl
      | false => exact absurd hh hb
theorem s_bar (z : TZ Z t) {j k nb : Nat} (c : CP Z t j (0, -1) X) (hj : j < t) (hk : k < 4) (hnb : nb ≤ 10) (eb : X 24 11 = nI nb)
    (q1 : 10 ≤ nb → ∀ U, CP Z t j (5, nI j) U → QV U Y)
    (q2 : nb < 10 → ∀ U, CP Z t (sE (Z 2) t 93 (nE (Z 2) t (j + 1))) (bjF (Z 2) t j) U → U 24 11 = nI (nb + 1) → (∀ f, f ≠ 5 → f ≠ 6 → f ≠ 7 → f ≠ 11 → U 24 f = X 24 f) → U 25 = X 25 → U 26 = upd (X 26) k (-1) → U 27 = upd (X 27) k (nI (nV (Z 2) t (j + 1))) → QV U Y) : PX2_takeBar (nI k) X Y QV := by
  have ht := z.1
  unfold PX2_takeBar BX2_takeBar_s
  have e5 : sX X 24 11 (nI (nb + 1)) 24 5 = nI j := by
    rw [sX_eq, pk_un (by decide)]
    exact c.2.1
  rw [eb, nI_1, e5, nI_1, i_lt, show (10 : Int32) = nI 10 from rfl, le_nI (by omega) (by omega)]
  refine ⟨fun g X2 e2 => ⟨vp_in_nI hk (by omega), ?_⟩, fun g => ?_⟩
  · rw [cl_nI (show k < 2147483648 by omega)]
    have c1 : CP Z t j (0, -1) (sX X 24 11 (nI (nb + 1))) := c.oth (fun q h _ _ _ => sX_ne h) (by rw [sX_eq, pk_un (by decide)]) (by rw [sX_eq, pk_un (by decide)]) (by rw [sX_eq, pk_un (by decide)])
    have c2 : CP Z t (j + 1) (0, -1) X2 := by
      rw [e2]
      exact c1.to (by omega)
    have c3 : CP Z t (j + 1) (0, -1) (sX X2 26 k (-1)) := c2.oth (fun q _ _ h _ => sX_ne h) (by rw [sX_ne (by decide)]) (by rw [sX_ne (by decide)]) (by rw [sX_ne (by decide)])
    refine s_num (lo := 1) (hi := 200) z c3 (by omega) (by omega) (fun U c4 f4 => ⟨vp_in_nI hk (by omega), ?_⟩)
    have c5 : CP Z t (nE (Z 2) t (j + 1)) (flF (0, -1) (nF (Z 2) t 1 200 (j + 1))) (sX U 27 k (nI (nV (Z 2) t (j + 1)))) := c4.oth (fun q _ _ _ h => sX_ne h) (by rw [sX_ne (by decide)]) (by rw [sX_ne (by decide)]) (by rw [sX_ne (by decide)])
    refine s_sign z c5 (by decide) (fun W c6 f6 => ?_)
    have k24 : ∀ f, f ≠ 5 → f ≠ 6 → f ≠ 7 → W 24 f = X2 24 f := fun f a b d => by
      rw [f6.2 f a b d, sX_ne (by decide), f4.2 f a b d, sX_ne (by decide)]
    refine q2 (by omega) W c6 ?_ (fun f a b d e => ?_) ?_ ?_ ?_
    · rw [k24 11 (by decide) (by decide) (by decide), e2, sX_eq, pk_un (by decide), sX_eq, pk_us]
    · rw [k24 f a b d, e2, sX_eq, pk_un a, sX_eq, pk_un e]
    · rw [f6.1 25 (by decide), sX_ne (by decide), f4.1 25 (by decide), sX_ne (by decide), e2, sX_ne (by decide), sX_ne (by decide)]
    · rw [f6.1 26 (by decide), sX_ne (by decide), f4.1 26 (by decide), sX_eq, e2, sX_ne (by decide), sX_ne (by decide)]
    · rw [f6.1 27 (by decide), sX_eq, f4.1 27 (by decide), sX_ne (by decide), e2, sX_ne (by decide), sX_ne (by decide)]
  · rw [c.2.1]
    refine s_fail (k := 5) c (by omega) (fun W c' f' => ?_)
    rw [fl_0] at c'
    exact q1 (by omega) W c'
end CPLACE
