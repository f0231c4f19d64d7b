/-! page: the text, as numbers; the class's parser, piece by piece -/
def chr (b : Nat → Int32) (t j : Nat) : Int32 := if j < t then b j else -1
def skp (b : Nat → Int32) : Nat → Nat → Nat
  | 0, i => i
  | d + 1, i => if b i = 32 then skp b d (i + 1) else i
def sk (b : Nat → Int32) (t i : Nat) : Nat := skp b (t - i) i
def isFb (x : Int32) : Bool := decide (48 ≤ x ∧ x ≤ 57)
theorem isFb_iff {x : Int32} : isFb x = true ↔ 48 ≤ x ∧ x ≤ 57 := by unfold isFb; exact decide_eq_true_iff
def eof (b : Nat → Int32) : Nat → Nat → Nat
  | 0, i => i
  | d + 1, i => if isFb (b i) = true then eof b d (i + 1) else i
def nE (b : Nat → Int32) (t i : Nat) : Nat := eof b (t - sk b t i) (sk b t i)
def nval (b : Nat → Int32) (s : Nat) : Nat → Nat
  | 0 => 0
  | k + 1 => 10 * nval b s k + ((b (s + k)).toNatClampNeg - 48)
def nV (b : Nat → Int32) (t i : Nat) : Nat := nval b (sk b t i) (min 3 (nE b t i - sk b t i))
def nF (b : Nat → Int32) (t lo hi i : Nat) : Nat × Nat := if nE b t i = sk b t i then (1, sk b t i) else if 3 < nE b t i - sk b t i ∨ ¬ (lo ≤ nV b t i ∧ nV b t i ≤ hi) then (2, sk b t i) else (0, 0)
def wE (b : Nat → Int32) (t i : Nat) : Nat := eow b (t - sk b t i) (sk b t i)
def wln (n : Nat) : Nat := slen.getD n 0
def wch (n k : Nat) : Int32 := (sbyt.getD n []).getD k 0
def isWd (b : Nat → Int32) (t n i : Nat) : Prop := wE b t i - sk b t i = wln n ∧ ∀ k, k < wln n → b (sk b t i + k) = wch n k
def wF (b : Nat → Int32) (t n i : Nat) : Nat × Nat := if wE b t i - sk b t i = wln n ∧ ∀ k, k < wln n → b (sk b t i + k) = wch n k then (0, 0) else (1, sk b t i)
def sF (b : Nat → Int32) (t : Nat) (s : Int32) (i : Nat) : Nat × Nat := if chr b t (sk b t i) = s then (0, 0) else (1, sk b t i)
def sE (b : Nat → Int32) (t : Nat) (s : Int32) (i : Nat) : Nat := if chr b t (sk b t i) = s then sk b t i + 1 else sk b t i
def fl (p : Nat × Int32) (k w : Nat) : Nat × Int32 := if p.1 = 0 then (k, nI w) else p
def flF (p : Nat × Int32) (f : Nat × Nat) : Nat × Int32 := if f.1 = 0 then p else fl p f.1 f.2
theorem skp_le (b : Nat → Int32) : ∀ d i, i ≤ skp b d i ∧ skp b d i ≤ i + d
  | 0, i => ⟨Nat.le_refl _, Nat.le_refl _⟩
  | d + 1, i => by
    unfold skp
    split
    · have := skp_le b d (i + 1)
      omega
    · omega
theorem sk_le {b : Nat → Int32} {t i : Nat} (h : i ≤ t) : i ≤ sk b t i ∧ sk b t i ≤ t := by
  have := skp_le b (t - i) i
  unfold sk
  omega
theorem sk_end {b : Nat → Int32} {t i : Nat} (h : t ≤ i) : sk b t i = i := by
  unfold sk
  rw [show t - i = 0 by omega]
  rfl
theorem sk_at {b : Nat → Int32} {t i : Nat} (h : i < t) : sk b t i = if b i = 32 then sk b t (i + 1) else i := by
  unfold sk
  rw [show t - i = (t - (i + 1)) + 1 by omega]
  rfl
theorem sk_ne {b : Nat → Int32} {t i : Nat} (h : ¬ b i = 32) : sk b t i = i := by
  rcases Nat.lt_or_ge i t with g | g
  · rw [sk_at g, if_neg h]
  · exact sk_end g
theorem skp_no (b : Nat → Int32) : ∀ d i, skp b d i = i + d ∨ ¬ b (skp b d i) = 32
  | 0, i => Or.inl rfl
  | d + 1, i => by
    unfold skp
    by_cases h : b i = 32
    · rw [if_pos h]
      rcases skp_no b d (i + 1) with g | g
      · exact Or.inl (by omega)
      · exact Or.inr g
    · rw [if_neg h]
      exact Or.inr h
theorem sk_sk {b : Nat → Int32} {t i : Nat} (h : i ≤ t) : sk b t (sk b t i) = sk b t i := by
  rcases skp_no b (t - i) i with g | g
  · apply sk_end
    unfold sk
    omega
  · exact sk_ne g
theorem eof_le (b : Nat → Int32) : ∀ d i, i ≤ eof b d i ∧ eof b d i ≤ i + d
  | 0, i => ⟨Nat.le_refl _, Nat.le_refl _⟩
  | d + 1, i => by
    unfold eof
    split
    · have := eof_le b d (i + 1)
      omega
    · omega
theorem nE_le {b : Nat → Int32} {t i : Nat} (h : i ≤ t) : sk b t i ≤ nE b t i ∧ nE b t i ≤ t := by
  have h1 := sk_le (b := b) h
  have h2 := eof_le b (t - sk b t i) (sk b t i)
  unfold nE
  omega
theorem wE_le {b : Nat → Int32} {t i : Nat} (h : i ≤ t) : sk b t i ≤ wE b t i ∧ wE b t i ≤ t := by
  have h1 := sk_le (b := b) h
  have h2 := eow_le b (t - sk b t i) (sk b t i)
  unfold wE
  omega
theorem sE_le {b : Nat → Int32} {t i : Nat} {s : Int32} (hs : ¬ s = -1) (h : i ≤ t) : sE b t s i ≤ t := by
  have h1 := sk_le (b := b) h
  unfold sE
  split
  · next g =>
    unfold chr at g
    by_cases hl : sk b t i < t
    · omega
    · rw [if_neg hl] at g
      exact absurd g.symm hs
  · omega
theorem fig {b : Nat → Int32} {i : Nat} (hb : ∃ c, c < 256 ∧ b i = nI c) (h : isFb (b i) = true) : ∃ c, 48 ≤ c ∧ c ≤ 57 ∧ b i = nI c := by
  obtain ⟨c, hc, e⟩ := hb
  have := isFb_iff.mp h
  rw [e, show (48 : Int32) = nI 48 from rfl, show (57 : Int32) = nI 57 from rfl, le_nI (by omega) (by omega), le_nI (by omega) (by omega)] at this
  exact ⟨c, this.1, this.2, e⟩
/-- the class's parser -/
def CP (Z : XT) (t i : Nat) (p : Nat × Int32) (X : XT) : Prop := (∀ q, q ≠ 24 → q ≠ 25 → q ≠ 26 → q ≠ 27 → X q = Z q) ∧ X 24 5 = nI i ∧ i ≤ t ∧ X 24 6 = nI p.1 ∧ X 24 7 = p.2 ∧ p.1 < 6
def F3 (X U : XT) : Prop := (∀ q, q ≠ 24 → U q = X q) ∧ ∀ j, j ≠ 5 → j ≠ 6 → j ≠ 7 → U 24 j = X 24 j
theorem F3.refl {X : XT} : F3 X X := ⟨fun _ _ => rfl, fun _ _ _ _ => rfl⟩
theorem F3.trans {X U W : XT} (h : F3 X U) (g : F3 U W) : F3 X W := ⟨fun q hq => (g.1 q hq).trans (h.1 q hq), fun j h1 h2 h3 => (g.2 j h1 h2 h3).trans (h.2 j h1 h2 h3)⟩
def TZ (Z : XT) (t : Nat) : Prop := t ≤ 120 ∧ Z 1 1 = nI t ∧ ∀ j, ∃ c, c < 256 ∧ Z 2 j = nI c
section CPARSE
variable {Z X : XT} {Y : YT} {Q : Int32 → XT → YT → Prop} {QV : XT → YT → Prop} {t i : Nat} {p : Nat × Int32}
theorem CP.at_ (h : CP Z t i p X) {j : Nat} : CP Z t (if j ≤ t then j else i) p (sX X 24 5 (nI (if j ≤ t then j else i))) := by
  obtain ⟨h1, h2, h3, h4, h5, h6⟩ := h
  refine ⟨fun q q1 q2 q3 q4 => by rw [sX_ne q1]; exact h1 q q1 q2 q3 q4, by rw [sX_eq]; simp [upd], by split <;> omega, by rw [sX_eq]; exact h4, by rw [sX_eq]; exact h5, h6⟩
theorem CP.to (h : CP Z t i p X) {j : Nat} (hj : j ≤ t) : CP Z t j p (sX X 24 5 (nI j)) := by
  have := h.at_ (j := j)
  rw [if_pos hj] at this
  exact this
theorem F3.to {j : Nat} : F3 X (sX X 24 5 (nI j)) := ⟨fun q hq => sX_ne hq, fun k h1 _ _ => by rw [sX_eq]; unfold upd; rw [if_neg h1]⟩
theorem eq_chr (z : TZ Z t) (h : CP Z t i p X) {j : Nat} (hj : j < 1000) : PX8_at (nI j) X Y Q = Q (chr (Z 2) t j) X Y := by
  rw [eq_at hj z.1 (by rw [h.1 1 (by decide) (by decide) (by decide) (by decide)]; exact z.2.1), h.1 2 (by decide) (by decide) (by decide) (by decide)]
  rfl
theorem eq_chr' (z : TZ Z t) (h : CP Z t i p X) : PX8_at (X 24 5) X Y Q = Q (chr (Z 2) t i) X Y := by
  rw [h.2.1]
  have := h.2.2.1
  have := z.1
  exact eq_chr z h (by omega)
theorem s_skip (z : TZ Z t) (h : CP Z t i p X) (hq : ∀ U, CP Z t (sk (Z 2) t i) p U → F3 X U → QV U Y) : PX2_skipBlanks X Y QV := by
  intro I0 h0
  have key : ∀ d i X, t - i = d → CP Z t i p X → (∀ U, CP Z t (sk (Z 2) t i) p U → F3 X U → QV U Y) → BX2_skipBlanks_0 I0 QV X Y := by
    intro d
    induction d with
    | zero =>
      intro i X hd h hq
      have hi := h.2.2.1
      have ht := z.1
      unfold BX2_skipBlanks_0
      rw [h.1 1 (by decide) (by decide) (by decide) (by decide), z.2.1, h.2.1, le_nI (by omega) (by omega)]
      refine ⟨fun _ => ?_, fun g => absurd (by omega) g⟩
      rw [sk_end (by omega)] at hq
      exact hq X h F3.refl
    | succ d ih =>
      intro i X hd h hq
      have hi := h.2.2.1
      have ht := z.1
      unfold BX2_skipBlanks_0
      rw [eq_chr' z h, h.1 1 (by decide) (by decide) (by decide) (by decide), z.2.1, h.2.1, le_nI (by omega) (by omega)]
      rw [sk_at (by omega)] at hq
      have ec : chr (Z 2) t i = Z 2 i := by unfold chr; rw [if_pos (by omega)]
      rw [ec]
      refine ⟨fun g => absurd g (by omega), fun _ => ⟨fun g => ?_, fun g => ?_⟩⟩
      · rw [if_neg g] at hq
        exact hq X h F3.refl
      · rw [if_pos g] at hq
        apply h0
        rw [nI_1]
        exact ih (i + 1) _ (by omega) (h.to (by omega)) (fun U c f => hq U c (F3.to.trans f))
  exact key (t - i) i X rfl h hq
theorem s_fail (h : CP Z t i p X) {k w : Nat} (hk : 0 < k ∧ k < 6) (hq : ∀ U, CP Z t i (fl p k w) U → F3 X U → QV U Y) : PX2_fail (nI k) (nI w) X Y QV := by
  obtain ⟨h1, h2, h3, h4, h5, h6⟩ := id h
  unfold PX2_fail BX2_fail_s
  have e0 : (nI p.1 = 0) = (p.1 = 0) := eq_nI (b := 0) (by omega) (by omega)
  rw [h4, e0]
  unfold fl at hq
  refine ⟨fun g => ?_, fun g => ?_⟩
  · rw [if_neg g] at hq
    exact hq X h F3.refl
  · rw [if_pos g] at hq
    refine hq _ ⟨fun q q1 q2 q3 q4 => by rw [sX_ne q1, sX_ne q1]; exact h1 q q1 q2 q3 q4, ?_, h3, ?_, ?_, hk.2⟩ ⟨fun q hq => by rw [sX_ne hq, sX_ne hq], fun j j1 j2 j3 => ?_⟩
    · rw [sX_eq, sX_eq]
      simp [upd]
      exact h2
    · rw [sX_eq, sX_eq]
      simp [upd]
    · rw [sX_eq]
      simp [upd]
    · rw [sX_eq, sX_eq]
      simp [upd, j2, j3]
theorem flF_no (p : Nat × Int32) : flF p (0, 0) = p := by simp [flF]
theorem flF_yes {k w : Nat} (hk : 0 < k) (p : Nat × Int32) : flF p (k, w) = fl p k w := by
  unfold flF
  rw [if_neg (show ¬ k = 0 by omega)]
theorem s_sign (z : TZ Z t) (h : CP Z t i p X) {s : Int32} (hs : ¬ s = -1) (hq : ∀ U, CP Z t (sE (Z 2) t s i) (flF p (sF (Z 2) t s i)) U → F3 X U → QV U Y) : PX2_takeSign s X Y QV := by
  have ht := z.1
  unfold PX2_takeSign BX2_takeSign_s
  have hle := sE_le (b := Z 2) hs h.2.2.1
  refine s_skip z h (fun U c f => ?_)
  rw [eq_chr' z c]
  unfold sE sF at hq
  unfold sE at hle
  refine ⟨fun g => ?_, fun g => ?_⟩
  · rw [if_pos g, if_pos g, flF_no] at hq
    rw [if_pos g] at hle
    rw [c.2.1, nI_1]
    exact hq _ (c.to hle) (f.trans F3.to)
  · rw [if_neg g, if_neg g, flF_yes (by omega)] at hq
    rw [c.2.1]
    exact s_fail (k := 1) c (by omega) (fun W c' f' => hq W c' (f.trans f'))
theorem sc_wch : ∀ n, n < 3 → ∀ k, k < wln n → sc n (nI k) = wch n k ∧ wln n ≤ 6 := by decide +kernel
theorem wln_le : ∀ n, n < 3 → wln n ≤ 6 ∧ 0 < wln n := by decide
theorem s_word (z : TZ Z t) (h : CP Z t i p X) {n : Nat} (hn : n < 3) (hq : ∀ U, CP Z t (wE (Z 2) t i) (flF p (wF (Z 2) t n i)) U → F3 X U → QV U Y) : PX2_takeWord n X Y QV := by
  intro I38 I86 h38 h86
  have ht := z.1
  have hw6 := wln_le n hn
  have hle := sk_le (b := Z 2) h.2.2.1
  have hwe := wE_le (b := Z 2) h.2.2.1
  unfold BX2_takeWord_s
  refine s_skip z h (fun U c f => ?_)
  rw [c.2.1]
  refine s_endOfWord z.1 (by rw [c.1 1 (by decide) (by decide) (by decide) (by decide)]; exact z.2.1) (by omega) ?_
  rw [c.1 2 (by decide) (by decide) (by decide) (by decide)]
  show PJ0_length_8abf5 n U Y _
  refine ⟨hn, ?_⟩
  show (¬ nI (wE (Z 2) t i) - U 24 5 = nI (wln n) → I38 (nI (wE (Z 2) t i)) 0 0 U Y) ∧ (nI (wE (Z 2) t i) - U 24 5 = nI (wln n) → I38 (nI (wE (Z 2) t i)) 1 0 U Y)
  rw [c.2.1, pk_sub hwe.1, eq_nI (by omega) (by omega)]
  have fin : ∀ a3, TV a3 (wE (Z 2) t i - sk (Z 2) t i = wln n ∧ ∀ k, k < wln n → Z 2 (sk (Z 2) t i + k) = wch n k) → I86 (nI (wE (Z 2) t i)) a3 U Y := by
    intro a3 ha
    apply h86
    unfold BX2_takeWord_86
    rw [ha.z]
    unfold wF at hq
    refine ⟨fun g => ?_, fun g => ?_⟩
    · rw [if_pos (Classical.not_not.mp g), flF_no] at hq
      exact hq _ (c.to hwe.2) (f.trans F3.to)
    · rw [if_neg g, flF_yes (by omega)] at hq
      rw [c.2.1]
      exact s_fail (k := 1) c (by omega) (fun W c' f' => hq _ (c'.to hwe.2) ((f.trans f').trans F3.to))
  have zero : ∀ k, k ≤ wln n → ¬ (wE (Z 2) t i - sk (Z 2) t i = wln n ∧ ∀ k, k < wln n → Z 2 (sk (Z 2) t i + k) = wch n k) → I38 (nI (wE (Z 2) t i)) 0 (nI k) U Y := by
    intro k hk hno
    apply h38
    unfold BX2_takeWord_38
    refine ⟨hn, ⟨fun _ => fin 0 (TV.f hno), fun _ => ⟨fun _ => fin 0 (TV.f hno), fun g => absurd rfl g⟩⟩⟩
  refine ⟨fun g => zero 0 (by omega) (fun y => g y.1), fun g => ?_⟩
  refine dn (n := wln n) (P := fun k => (∀ k', k' < k → Z 2 (sk (Z 2) t i + k') = wch n k') → I38 (nI (wE (Z 2) t i)) 1 (nI k) U Y) ?_ ?_ 0 (by omega) (fun k' hk' => absurd hk' (by omega))
  · intro hall
    apply h38
    unfold BX2_takeWord_38
    refine ⟨hn, ?_⟩
    show (nI (wln n) ≤ nI (wln n) → _) ∧ (¬ nI (wln n) ≤ nI (wln n) → _)
    rw [le_nI (by omega) (by omega)]
    exact ⟨fun _ => fin 1 (TV.t ⟨g, hall⟩), fun y => absurd (Nat.le_refl _) y⟩
  · intro k hk ih hall
    apply h38
    unfold BX2_takeWord_38
    refine ⟨hn, ?_⟩
    show (nI (wln n) ≤ nI k → _) ∧ _
    rw [le_nI (by omega) (by omega), c.2.1, nI_add, eq_chr z c (by omega)]
    have ec : chr (Z 2) t (sk (Z 2) t i + k) = Z 2 (sk (Z 2) t i + k) := by unfold chr; rw [if_pos (by omega)]
    rw [ec]
    refine ⟨fun y => absurd y (by omega), fun _ => ⟨fun y => absurd y (by decide), fun _ => ⟨hn, vp_in_nI (show k < slen.getD n 0 from hk) (by have := hw6.1; unfold wln at this; omega), ?_⟩⟩⟩
    rw [(sc_wch n hn k hk).1]
    refine ⟨fun y w e => ?_, fun y w e => ?_⟩
    · rw [e, nI_1]
      exact zero (k + 1) (by omega) (fun x => y (x.2 k hk))
    · rw [e, nI_1]
      refine ih (fun k' hk' => ?_)
      by_cases e : k' = k
      · rw [e]
        exact y
      · exact hall k' (by omega)
end CPARSE
