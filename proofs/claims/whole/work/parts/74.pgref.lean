/-! page: the reference's reading of the text; Z1 is where the reference starts, Z where the class started -/
def RP (Z1 : XT) (t i : Nat) (p : Nat × Int32) (X : XT) : Prop := (∀ q, q ≠ 48 → q ≠ 68 → q ≠ 69 → q ≠ 70 → X q = Z1 q) ∧ (∀ j, j < 27 ∨ 33 < j → X 48 j = Z1 48 j) ∧ X 48 27 = nI i ∧ i ≤ t ∧ X 48 30 = nI p.1 ∧ X 48 31 = p.2 ∧ p.1 < 6
def G3 (X U : XT) : Prop := (∀ q, q ≠ 48 → U q = X q) ∧ ∀ j, j < 27 ∨ 31 < j → U 48 j = X 48 j
def G1 (X U : XT) : Prop := (∀ q, q ≠ 48 → U q = X q) ∧ ∀ j, j ≠ 27 → U 48 j = X 48 j
theorem G1.refl {X : XT} : G1 X X := ⟨fun _ _ => rfl, fun _ _ => rfl⟩
theorem G3.refl {X : XT} : G3 X X := ⟨fun _ _ => rfl, fun _ _ => rfl⟩
theorem G1.trans {X U W : XT} (h : G1 X U) (g : G1 U W) : G1 X W := ⟨fun q hq => (g.1 q hq).trans (h.1 q hq), fun j h1 => (g.2 j h1).trans (h.2 j h1)⟩
theorem G3.trans {X U W : XT} (h : G3 X U) (g : G3 U W) : G3 X W := ⟨fun q hq => (g.1 q hq).trans (h.1 q hq), fun j h1 => (g.2 j h1).trans (h.2 j h1)⟩
theorem G1.g3 {X U : XT} (h : G1 X U) : G3 X U := ⟨h.1, fun j hj => h.2 j (by omega)⟩
theorem G1.at_ {X : XT} {v : Int32} : G1 X (sX X 48 27 v) := ⟨fun _ hq => sX_ne hq, fun _ hj => by rw [sX_eq, pk_un hj]⟩
theorem G3.set {X : XT} {j : Nat} {v : Int32} (hj : 27 ≤ j ∧ j ≤ 31) : G3 X (sX X 48 j v) := ⟨fun _ hq => sX_ne hq, fun k hk => by rw [sX_eq, pk_un (by omega)]⟩
def TR (Z Z1 : XT) (t : Nat) : Prop := t ≤ 120 ∧ Z1 48 12 = nI t ∧ (∀ j, ∃ c, c < 256 ∧ Z 2 j = nI c) ∧ Z1 57 = Z 2
theorem nE_fig {b : Nat → Int32} {t i : Nat} (hi : i ≤ t) : (48 ≤ chr b t (sk b t i) ∧ chr b t (sk b t i) ≤ 57) ↔ ¬ nE b t i = sk b t i := by
  have hle := sk_le (b := b) hi
  unfold nE chr
  by_cases h : sk b t i < t
  · rw [if_pos h, show t - sk b t i = (t - (sk b t i + 1)) + 1 by omega, eof_s]
    have := eof_le b (t - (sk b t i + 1)) (sk b t i + 1)
    rw [← isFb_iff]
    by_cases g : isFb (b (sk b t i)) = true
    · rw [if_pos g]
      exact ⟨fun _ => by omega, fun _ => g⟩
    · rw [if_neg g]
      exact ⟨fun y => absurd y g, fun y => absurd rfl y⟩
  · rw [if_neg h, show t - sk b t i = 0 by omega]
    exact ⟨fun y => absurd y (by decide), fun y => absurd rfl y⟩
theorem eow_pos {b : Nat → Int32} {t j : Nat} : (j < t ∧ isLb (b j) = true) ↔ j < eow b (t - j) j := by
  by_cases h : j < t
  · rw [show t - j = (t - (j + 1)) + 1 by omega]
    have := eow_le b (t - (j + 1)) (j + 1)
    show _ ↔ j < (if isLb (b j) = true then eow b (t - (j + 1)) (j + 1) else j)
    by_cases g : isLb (b j) = true
    · rw [if_pos g]
      exact ⟨fun _ => by omega, fun _ => ⟨h, g⟩⟩
    · rw [if_neg g]
      exact ⟨fun y => absurd y.2 g, fun y => absurd y (by omega)⟩
  · rw [show t - j = 0 by omega]
    exact ⟨fun y => absurd y.1 h, fun y => absurd (show j < j from y) (by omega)⟩
section RPARSE
variable {Z Z1 X : XT} {Y : YT} {Q : Int32 → XT → YT → Prop} {QV : XT → YT → Prop} {t i N : Nat} {p : Nat × Int32}
theorem RP.tx (z : TR Z Z1 t) (h : RP Z1 t i p X) : X 48 12 = nI t := by
  rw [h.2.1 12 (by omega)]
  exact z.2.1
theorem RP.b (z : TR Z Z1 t) (h : RP Z1 t i p X) : X 57 = Z 2 := by
  rw [h.1 57 (by decide) (by decide) (by decide) (by decide)]
  exact z.2.2.2
theorem RP.at_ (h : RP Z1 t i p X) {j : Nat} (hj : j ≤ t) : RP Z1 t j p (sX X 48 27 (nI j)) :=
  ⟨fun q a b c d => by rw [sX_ne a]; exact h.1 q a b c d, fun k hk => by rw [sX_eq, pk_un (by omega)]; exact h.2.1 k hk, by rw [sX_eq, pk_us], hj, by rw [sX_eq, pk_un (by decide)]; exact h.2.2.2.2.1, by rw [sX_eq, pk_un (by decide)]; exact h.2.2.2.2.2.1, h.2.2.2.2.2.2⟩
theorem RP.set (h : RP Z1 t i p X) {j : Nat} {v : Int32} (hj : 28 ≤ j ∧ j ≤ 33) (h0 : j ≠ 30) (h1 : j ≠ 31) : RP Z1 t i p (sX X 48 j v) :=
  ⟨fun q a b c d => by rw [sX_ne a]; exact h.1 q a b c d, fun k hk => by rw [sX_eq, pk_un (by omega)]; exact h.2.1 k hk, by rw [sX_eq, pk_un (by omega)]; exact h.2.2.1, h.2.2.2.1, by rw [sX_eq, pk_un (by omega)]; exact h.2.2.2.2.1, by rw [sX_eq, pk_un (by omega)]; exact h.2.2.2.2.2.1, h.2.2.2.2.2.2⟩
theorem RP.arr (h : RP Z1 t i p X) {q k : Nat} {v : Int32} (hq : q = 68 ∨ q = 69 ∨ q = 70) : RP Z1 t i p (sX X q k v) := by
  have n48 : (48 : Nat) ≠ q := by omega
  exact ⟨fun q' a b c d => by rw [sX_ne (by omega)]; exact h.1 q' a b c d, fun k hk => by rw [sX_ne n48]; exact h.2.1 k hk, by rw [sX_ne n48]; exact h.2.2.1, h.2.2.2.1, by rw [sX_ne n48]; exact h.2.2.2.2.1, by rw [sX_ne n48]; exact h.2.2.2.2.2.1, h.2.2.2.2.2.2⟩
theorem RP.ft (h : RP Z1 t i p X) : (X 48 30 = 0) = (p.1 = 0) := by
  rw [h.2.2.2.2.1]
  exact eq_nI (b := 0) (by have := h.2.2.2.2.2.2; omega) (by omega)
theorem r_here (z : TR Z Z1 t) (h : RP Z1 t i p X) (hq : ∀ U, RP Z1 t (sk (Z 2) t i) p U → G1 X U → Q (chr (Z 2) t (sk (Z 2) t i)) U Y) : PX10_here X Y Q := by
  intro I0 h0
  have key : ∀ d i X, t - i = d → RP Z1 t i p X → (∀ U, RP Z1 t (sk (Z 2) t i) p U → G1 X U → Q (chr (Z 2) t (sk (Z 2) t i)) U Y) → BX10_here_0 I0 Q X Y := by
    intro d
    induction d with
    | zero =>
      intro i X hd h hq
      have hi := h.2.2.2.1
      have ht := z.1
      unfold BX10_here_0
      rw [h.tx z, h.2.2.1, le_nI (by omega) (by omega)]
      refine ⟨fun _ => ⟨fun _ => ?_, fun g => absurd (by omega) g⟩, fun g => absurd (by omega) g⟩
      rw [sk_end (by omega)] at hq
      have := hq X h G1.refl
      unfold chr at this
      rw [if_neg (by omega)] at this
      exact this
    | succ d ih =>
      intro i X hd h hq
      have hi := h.2.2.2.1
      have ht := z.1
      rw [sk_at (by omega)] at hq
      unfold BX10_here_0
      rw [h.tx z, h.2.2.1, le_nI (by omega) (by omega), cl_nI (by omega), h.b z]
      refine ⟨fun g => absurd g (by omega), fun _ => ⟨vp_in_nI (by omega) (by omega), fun g => ⟨fun y => absurd y (by omega), fun _ => ⟨vp_in_nI (by omega) (by omega), ?_⟩⟩, fun g => ?_⟩⟩
      · rw [if_neg g] at hq
        have := hq X h G1.refl
        unfold chr at this
        rw [if_pos (by omega)] at this
        exact this
      · rw [if_pos g] at hq
        apply h0
        rw [nI_1]
        exact ih (i + 1) _ (by omega) (h.at_ (by omega)) (fun U c f => hq U c (G1.at_.trans f))
  exact key (t - i) i X rfl h hq
theorem r_want (h : RP Z1 t i (0, -1) X) {a : Int32} {P : Prop} (ha : TV a P) {k w : Nat} (hk : 0 < k ∧ k < 6) (q1 : P → Q 1 X Y) (q0 : ¬ P → ∀ U, RP Z1 t i (k, nI w) U → G3 X U → Q 0 U Y) : PX10_want a (nI k) (nI w) X Y Q := by
  have e30 : X 48 30 = 0 := h.2.2.2.2.1
  unfold PX10_want BX10_want_s
  rcases ha with ⟨rfl, hp⟩ | ⟨rfl, hp⟩
  · exact ⟨fun _ => ⟨fun y => absurd e30 y, fun _ => q1 hp⟩, fun y => absurd y (by decide)⟩
  · refine ⟨fun y => absurd rfl y, fun _ => ⟨fun y => absurd e30 y, fun _ => ⟨fun _ => q0 hp _ ?_ ?_, fun y => ?_⟩⟩⟩
    · exact ⟨fun q a b c d => by rw [sX_ne a, sX_ne a]; exact h.1 q a b c d, fun j hj => by rw [sX_eq, pk_un (by omega), sX_eq, pk_un (by omega)]; exact h.2.1 j hj, by rw [sX_eq, pk_un (by decide), sX_eq, pk_un (by decide)]; exact h.2.2.1, h.2.2.2.1, by rw [sX_eq, pk_un (by decide), sX_eq, pk_us], by rw [sX_eq, pk_us], hk.2⟩
    · exact (G3.set (by omega)).trans (G3.set (by omega))
    · rw [sX_eq, pk_un (by decide), sX_eq, pk_us] at y
      exact absurd y (nI_ne0 hk.1 (by omega))
theorem r_word (z : TR Z Z1 t) (h : RP Z1 t i p X) (hq : ∀ U, RP Z1 t (wE (Z 2) t i) p U → G3 X U → U 48 28 = nI (sk (Z 2) t i) → U 48 29 = nI (wE (Z 2) t i - sk (Z 2) t i) → QV U Y) : PX10_takeWord X Y QV := by
  intro I13 h13
  have ht := z.1
  have hsk := sk_le (b := Z 2) h.2.2.2.1
  unfold BX10_takeWord_s
  refine r_here z h (fun U0 c0 f0 => ?_)
  rw [c0.2.2.1]
  have fin : ∀ U, RP Z1 t (wE (Z 2) t i) p U → G3 X U → U 48 28 = nI (sk (Z 2) t i) → QV (sX U 48 29 (nI (wE (Z 2) t i) - U 48 28)) Y := by
    intro U c f e
    have hwe := wE_le (b := Z 2) h.2.2.2.1
    rw [e, pk_sub hwe.1]
    exact hq _ (c.set (by omega) (by omega) (by omega)) (f.trans (G3.set (by omega))) (by rw [sX_eq, pk_un (by decide)]; exact e) (by rw [sX_eq, pk_us])
  have key : ∀ d j U, t - j = d → RP Z1 t j p U → G3 X U → U 48 28 = nI (sk (Z 2) t i) → eow (Z 2) d j = wE (Z 2) t i → I13 U Y := by
    intro d
    induction d with
    | zero =>
      intro j U hd c f e he
      have hj := c.2.2.2.1
      have he : j = wE (Z 2) t i := he
      apply h13
      unfold BX10_takeWord_13
      rw [c.tx z, c.2.2.1, le_nI (by omega) (by omega)]
      refine ⟨fun _ => ?_, fun g => absurd (by omega) g⟩
      rw [he] at c ⊢
      exact fin U c f e
    | succ d ih =>
      intro j U hd c f e he
      have hj := c.2.2.2.1
      apply h13
      unfold BX10_takeWord_13
      rw [c.tx z, c.2.2.1, le_nI (by omega) (by omega), cl_nI (by omega), c.b z, l64_97, l64_122, eq_in3, c.2.2.1]
      simp only [bI_0]
      refine ⟨fun g => absurd g (by omega), fun _ => ⟨vp_in_nI (by omega) (by omega), ?_⟩⟩
      have he : (if isLb (Z 2 j) = true then eow (Z 2) d (j + 1) else j) = wE (Z 2) t i := he
      by_cases hl : isLb (Z 2 j) = true
      · rw [if_pos hl] at he
        refine ⟨fun g => absurd (isLb_iff.mp hl) g, fun _ => ?_⟩
        rw [nI_1]
        exact ih (j + 1) _ (by omega) (c.at_ (by omega)) (f.trans G1.at_.g3) (by rw [sX_eq, pk_un (by decide)]; exact e) he
      · rw [if_neg hl] at he
        refine ⟨fun _ => ?_, fun g => absurd (fun y => hl (isLb_iff.mpr y)) g⟩
        rw [he] at c ⊢
        exact fin U c f e
  refine key (t - sk (Z 2) t i) (sk (Z 2) t i) _ rfl (c0.set (by omega) (by omega) (by omega)) (f0.g3.trans (G3.set (by omega))) (by rw [sX_eq, pk_us]) rfl
theorem r_isWord (z : TR Z Z1 t) (h : RP Z1 t (wE (Z 2) t i) p X) (hi : i ≤ t) (e28 : X 48 28 = nI (sk (Z 2) t i)) (e29 : X 48 29 = nI (wE (Z 2) t i - sk (Z 2) t i)) {n : Nat} (hn : n < 3) {a b c d e f : Int32}
    (hch : ∀ k, k < wln n → wch n k = if k = 0 then a else if k = 1 then b else if k = 2 then c else if k = 3 then d else if k = 4 then e else f)
    (hq : ∀ r, TV r (wE (Z 2) t i - sk (Z 2) t i = wln n ∧ ∀ k, k < wln n → Z 2 (sk (Z 2) t i + k) = wch n k) → Q r X Y) : PX10_isWord (nI (wln n)) a b c d e f X Y Q := by
  intro I18 h18
  have ht := z.1
  have hw6 := wln_le n hn
  have hwe := wE_le (b := Z 2) hi
  unfold BX10_isWord_s
  rw [e29, eq_nI (by omega) (by omega)]
  have zero : ∀ k, ¬ (wE (Z 2) t i - sk (Z 2) t i = wln n ∧ ∀ k, k < wln n → Z 2 (sk (Z 2) t i + k) = wch n k) → I18 (nI (wln n)) a b c d e f 0 k X Y := by
    intro k hno
    apply h18
    unfold BX10_isWord_18
    have := hq 0 (TV.f hno)
    exact ⟨fun _ => ⟨by decide, this⟩, fun _ => ⟨fun _ => ⟨by decide, this⟩, fun g => absurd rfl g⟩⟩
  refine ⟨fun g => zero 0 (fun y => g y.1), fun g => ?_⟩
  refine dn (n := wln n) (P := fun k => (∀ k', k' < k → Z 2 (sk (Z 2) t i + k') = wch n k') → I18 (nI (wln n)) a b c d e f 1 (nI k) X Y) ?_ ?_ 0 (by omega) (fun k' hk' => absurd hk' (by omega))
  · intro hall
    apply h18
    unfold BX10_isWord_18
    rw [le_nI (by omega) (by omega)]
    exact ⟨fun _ => ⟨by decide, hq 1 (TV.t ⟨g, hall⟩)⟩, fun y => absurd (Nat.le_refl _) y⟩
  · intro k hk ih hall
    have leaf : ∀ x : Int32, wch n k = x → ((¬ Z 2 (sk (Z 2) t i + k) = x → ∀ w : Int32, w = nI k + 1 → I18 (nI (wln n)) a b c d e f 0 w X Y) ∧ (Z 2 (sk (Z 2) t i + k) = x → ∀ w : Int32, w = nI k + 1 → I18 (nI (wln n)) a b c d e f 1 w X Y)) := by
      intro x hx
      refine ⟨fun y w e => zero w (fun q => y ((q.2 k hk).trans hx)), fun y w e => ?_⟩
      rw [e, nI_1]
      refine ih (fun k' hk' => ?_)
      by_cases e : k' = k
      · rw [e, hx]
        exact y
      · exact hall k' (by omega)
    have hc := hch k hk
    apply h18
    unfold BX10_isWord_18
    rw [le_nI (by omega) (by omega), e28, nI_add, cl_nI (by omega), h.b z]
    have e0 : (nI k = 0) = (k = 0) := eq_nI (b := 0) (by omega) (by omega)
    have e1 : (nI k = 1) = (k = 1) := eq_nI (b := 1) (by omega) (by omega)
    have e2 : (nI k = 2) = (k = 2) := eq_nI (b := 2) (by omega) (by omega)
    have e3 : (nI k = 3) = (k = 3) := eq_nI (b := 3) (by omega) (by omega)
    have e4 : (nI k = 4) = (k = 4) := eq_nI (b := 4) (by omega) (by omega)
    rw [e0, e1, e2, e3, e4]
    refine ⟨fun y => absurd y (by omega), fun _ => ⟨fun y => absurd y (by decide), fun _ => ⟨vp_in_nI (by omega) (by omega), fun n0 => ⟨fun n1 => ⟨fun n2 => ⟨fun n3 => ⟨fun n4 => ?_, fun y => ?_⟩, fun y => ?_⟩, fun y => ?_⟩, fun y => ?_⟩, fun y => ?_⟩⟩⟩
    · rw [if_neg n0, if_neg n1, if_neg n2, if_neg n3, if_neg n4] at hc
      exact leaf f hc
    · rw [if_neg n0, if_neg n1, if_neg n2, if_neg n3, if_pos y] at hc
      exact leaf e hc
    · rw [if_neg n0, if_neg n1, if_neg n2, if_pos y] at hc
      exact leaf d hc
    · rw [if_neg n0, if_neg n1, if_pos y] at hc
      exact leaf c hc
    · rw [if_neg n0, if_pos y] at hc
      exact leaf b hc
    · rw [if_pos y] at hc
      exact leaf a hc
theorem wF_tv {n : Nat} {b : Nat → Int32} : (wF b t n i).1 = 0 ↔ (wE b t i - sk b t i = wln n ∧ ∀ k, k < wln n → b (sk b t i + k) = wch n k) := by
  unfold wF
  split
  · next g => exact ⟨fun _ => g, fun _ => rfl⟩
  · next g => exact ⟨fun y => absurd (show (1 : Nat) = 0 from y) (by omega), fun y => absurd y g⟩
theorem wF_1 {n : Nat} {b : Nat → Int32} (h : ¬ (wE b t i - sk b t i = wln n ∧ ∀ k, k < wln n → b (sk b t i + k) = wch n k)) : wF b t n i = (1, sk b t i) := if_neg h
theorem r_sign (z : TR Z Z1 t) (h : RP Z1 t i (0, -1) X) {s : Int32} (hs : ¬ s = -1) (hq : ∀ U, RP Z1 t (sE (Z 2) t s i) (flF (0, -1) (sF (Z 2) t s i)) U → G3 X U → QV U Y) : PX10_takeSign s X Y QV := by
  intro I28 h28
  have ht := z.1
  have hle := sE_le (b := Z 2) hs h.2.2.2.1
  have e30 : X 48 30 = 0 := h.2.2.2.2.1
  unfold BX10_takeSign_s
  refine ⟨fun y => absurd e30 y, fun _ => ?_⟩
  refine r_here z h (fun U c f => ?_)
  rw [c.2.2.1]
  unfold sE at hle
  unfold sE sF at hq
  refine ⟨fun g => ?_, fun g => ?_⟩
  · rw [if_neg g, if_neg g, flF_yes (by omega), fl_0] at hq
    apply h28
    unfold BX10_takeSign_28
    rw [c.2.2.1]
    refine r_want (k := 1) c (TV.f (p := False) (fun y => y)) (by omega) (fun y => absurd y (fun y => y)) (fun _ W cw fw => ?_)
    rw [eq_one, bI_f (by decide), Int32.add_zero]
    exact hq _ (cw.at_ c.2.2.2.1) ((f.g3.trans fw).trans G1.at_.g3)
  · rw [if_pos g, if_pos g, flF_no] at hq
    rw [if_pos g] at hle
    apply h28
    unfold BX10_takeSign_28
    rw [c.2.2.1]
    refine r_want (k := 1) c (TV.t (p := True) trivial) (by omega) (fun _ => ?_) (fun y => absurd trivial y)
    rw [eq_one, bI_t (by decide), nI_1]
    exact hq _ (c.at_ hle) (f.g3.trans G1.at_.g3)
theorem r_sign_st (h : RP Z1 t i p X) (hp : ¬ p.1 = 0) {s : Int32} (hq : QV X Y) : PX10_takeSign s X Y QV := by
  intro I28 h28
  unfold BX10_takeSign_s
  rw [h.ft]
  exact ⟨fun _ => hq, fun y => absurd y hp⟩
theorem r_num_st (h : RP Z1 t i p X) (hp : ¬ p.1 = 0) {lo hi : Int32} (hq : Q 0 X Y) : PX10_takeNumber lo hi X Y Q := by
  intro I50 I129 I160 I161 h50 h129 h160 h161
  unfold BX10_takeNumber_s
  have := h.2.2.2.2.2.2
  rw [h.2.2.2.2.1, show (0 : Int32) = nI 0 from rfl, le_nI (by omega) (by omega)]
  exact ⟨fun y => absurd y (by omega), fun _ => hq⟩
theorem r_num (z : TR Z Z1 t) (h : RP Z1 t i (0, -1) X) {lo hi : Nat} (hlo : lo < 1000) (hhi : hi < 1000) (hq : ∀ r U i', RP Z1 t i' (flF (0, -1) (nF (Z 2) t lo hi i)) U → G3 X U → ((nF (Z 2) t lo hi i).1 = 0 → r = nI (nV (Z 2) t i) ∧ i' = nE (Z 2) t i) → Q r U Y) : PX10_takeNumber (nI lo) (nI hi) X Y Q := by
  intro I50 I129 I160 I161 h50 h129 h160 h161
  have ht := z.1
  have hsk := sk_le (b := Z 2) h.2.2.2.1
  have hne := nE_le (b := Z 2) h.2.2.2.1
  have hvl : nV (Z 2) t i < 30000 := nval_lt z.2.2.1 (by omega)
  have e30 : X 48 30 = 0 := h.2.2.2.2.1
  unfold BX10_takeNumber_s
  rw [e30]
  refine ⟨fun _ => ?_, fun y => absurd (by decide) y⟩
  refine r_here z h (fun U0 c0 f0 => ?_)
  rw [c0.2.2.1, l64_48, l64_57, eq_in3]
  have c1 := c0.set (j := 28) (v := nI (sk (Z 2) t i)) (by omega) (by omega) (by omega)
  have f1 : G3 X (sX U0 48 28 (nI (sk (Z 2) t i))) := f0.g3.trans (G3.set (by omega))
  rw [c1.2.2.1]
  have tv : TV (bI (48 ≤ chr (Z 2) t (sk (Z 2) t i) ∧ chr (Z 2) t (sk (Z 2) t i) ≤ 57)) (¬ nE (Z 2) t i = sk (Z 2) t i) := by
    by_cases g : 48 ≤ chr (Z 2) t (sk (Z 2) t i) ∧ chr (Z 2) t (sk (Z 2) t i) ≤ 57
    · rw [bI_t g]
      exact TV.t ((nE_fig h.2.2.2.1).mp g)
    · rw [bI_f g]
      exact TV.f (fun y => g ((nE_fig h.2.2.2.1).mpr y))
  refine r_want (k := 1) c1 tv (by omega) (fun g => ⟨fun _ => ?_, fun y => absurd y (by decide)⟩) (fun g W cw fw => ⟨fun y => absurd rfl y, fun _ => ?_⟩)
  · have fin : ∀ a4 U, RP Z1 t (nE (Z 2) t i) (0, -1) U → G3 X U → U 48 28 = nI (sk (Z 2) t i) → (nE (Z 2) t i - sk (Z 2) t i ≤ 3 → a4 = nI (nV (Z 2) t i)) → I129 (nI lo) (nI hi) a4 U Y := by
      intro a4 U c f e28 hv
      have last : ∀ t0, TV t0 (¬ (3 < nE (Z 2) t i - sk (Z 2) t i ∨ ¬ (lo ≤ nV (Z 2) t i ∧ nV (Z 2) t i ≤ hi))) → I161 a4 t0 U Y := by
        intro t0 htv
        apply h161
        unfold BX10_takeNumber_161
        unfold nF at hq
        rw [if_neg g] at hq
        rw [e28]
        refine r_want (k := 2) c htv (by omega) (fun y => ?_) (fun y W cw fw => ?_)
        · rw [if_neg y, flF_no] at hq
          exact hq a4 U _ c f (fun _ => ⟨hv (by omega), rfl⟩)
        · rw [if_pos (Classical.not_not.mp y), flF_yes (by omega), fl_0] at hq
          exact hq a4 W _ cw (f.trans fw) (fun y => absurd (show (2 : Nat) = 0 from y) (by omega))
      apply h129
      unfold BX10_takeNumber_129
      rw [c.2.2.1, e28, pk_sub hne.1, show (4 : Int32) = nI 4 from rfl, le_nI (by omega) (by omega)]
      refine ⟨fun y => ?_, fun y => ?_⟩
      · apply h160
        exact last 0 (TV.f (fun q => q (Or.inl (by omega))))
      · rw [hv (by omega), eq_in3]
        simp only [bI_0]
        rw [le_nI (by omega) (by omega), le_nI (by omega) (by omega)]
        rw [hv (by omega)] at last
        refine ⟨fun y2 => ?_, fun y2 => ?_⟩
        · apply h160
          exact last 0 (TV.f (fun q => q (Or.inr y2)))
        · exact last 1 (TV.t (fun q => q.elim (fun q => by omega) y2))
    have key : ∀ d m a4 U, t - (sk (Z 2) t i + m) = d → RP Z1 t (sk (Z 2) t i + m) (0, -1) U → G3 X U → U 48 28 = nI (sk (Z 2) t i) → eof (Z 2) d (sk (Z 2) t i + m) = nE (Z 2) t i → (m ≤ 3 → a4 = nI (nval (Z 2) (sk (Z 2) t i) m) ∧ nval (Z 2) (sk (Z 2) t i) m < 10 ^ m) → I50 (nI lo) (nI hi) a4 U Y := by
      intro d
      induction d with
      | zero =>
        intro m a4 U hd c f e28 he hv
        have hm := c.2.2.2.1
        have he : sk (Z 2) t i + m = nE (Z 2) t i := he
        apply h50
        unfold BX10_takeNumber_50
        rw [c.tx z, c.2.2.1, le_nI (by omega) (by omega)]
        refine ⟨fun _ => ?_, fun y => absurd (by omega) y⟩
        rw [he] at c
        refine fin a4 U c f e28 (fun y => ?_)
        unfold nV
        rw [show min 3 (nE (Z 2) t i - sk (Z 2) t i) = m by omega]
        exact (hv (by omega)).1
      | succ d ih =>
        intro m a4 U hd c f e28 he hv
        have hm := c.2.2.2.1
        rw [eof_s] at he
        apply h50
        unfold BX10_takeNumber_50
        rw [c.tx z, c.2.2.1, le_nI (by omega) (by omega), cl_nI (by omega), c.b z, l64_48, l64_57, eq_in3, c.2.2.1, cl_nI (by omega), c.b z, nI_1]
        simp only [bI_0]
        refine ⟨fun y => absurd y (by omega), fun _ => ⟨vp_in_nI (by omega) (by omega), ?_⟩⟩
        by_cases hf : isFb (Z 2 (sk (Z 2) t i + m)) = true
        · rw [if_pos hf] at he
          have next : ∀ a4, (m + 1 ≤ 3 → a4 = nI (nval (Z 2) (sk (Z 2) t i) (m + 1)) ∧ nval (Z 2) (sk (Z 2) t i) (m + 1) < 10 ^ (m + 1)) → I50 (nI lo) (nI hi) a4 (sX U 48 27 (nI (sk (Z 2) t i + m + 1))) Y := fun a4 hv => ih (m + 1) a4 _ (by omega) (c.at_ (by omega)) (f.trans G1.at_.g3) (by rw [sX_eq, pk_un (by decide)]; exact e28) he hv
          refine ⟨fun y => absurd (isFb_iff.mp hf) y, fun _ => ⟨fun y => ⟨vp_in_nI (by omega) (by omega), fun w8 e8 => next w8 (fun hm3 => ?_)⟩, fun y => next a4 (fun hm3 => absurd ?_ y)⟩⟩
          · obtain ⟨v1, v2⟩ := hv (by omega)
            obtain ⟨c0, c1, c2, e0⟩ := fig (z.2.2.1 _) hf
            have en : nval (Z 2) (sk (Z 2) t i) (m + 1) = 10 * nval (Z 2) (sk (Z 2) t i) m + (c0 - 48) := by
              show 10 * nval (Z 2) (sk (Z 2) t i) m + ((Z 2 (sk (Z 2) t i + m)).toNatClampNeg - 48) = _
              rw [e0, cl_nI (by omega)]
            rw [en, Nat.pow_succ]
            refine ⟨?_, by omega⟩
            rw [e8, v1, e0, mul10', show (48 : Int32) = nI 48 from rfl, pk_sub (by omega)]
            congr 1
            omega
          · obtain ⟨v1, v2⟩ := hv (by omega)
            have : 10 ^ m ≤ 10 ^ 2 := Nat.pow_le_pow_right (by decide) (by omega)
            rw [v1, show (999 : Int32) = nI 999 from rfl, le_nI (by omega) (by omega)]
            omega
        · rw [if_neg hf] at he
          refine ⟨fun _ => ?_, fun y => absurd (fun q => hf (isFb_iff.mpr q)) y⟩
          rw [he] at c
          refine fin a4 U c f e28 (fun y => ?_)
          unfold nV
          rw [show min 3 (nE (Z 2) t i - sk (Z 2) t i) = m by omega]
          exact (hv (by omega)).1
    exact key (t - sk (Z 2) t i) 0 0 _ rfl c1 f1 (by rw [sX_eq, pk_us]) rfl (fun _ => ⟨rfl, by show 0 < 1; omega⟩)
  · have g := Classical.not_not.mp g
    unfold nF at hq
    rw [if_pos g, flF_yes (by omega), fl_0] at hq
    exact hq 0 W _ cw (f1.trans fw) (fun y => absurd (show (1 : Nat) = 0 from y) (by omega))
end RPARSE
