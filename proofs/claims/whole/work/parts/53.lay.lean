/-! LAYOUTS: which places are laid, in which order; the class's side -/
theorem dn {n : Nat} {P : Nat → Prop} (h0 : P n) (hs : ∀ k, k < n → P (k + 1) → P k) : ∀ k, k ≤ n → P k := by
  have key : ∀ d k, k + d = n → P k := by
    intro d
    induction d with
    | zero =>
      intro k hk
      have : k = n := by omega
      subst this
      exact h0
    | succ d ih =>
      intro k hk
      exact hs k (by omega) (ih (k + 1) (by omega))
  exact fun k hk => key (n - k) k (by omega)
def orM (f : Nat → Nat) : Nat → Nat
  | 0 => 0
  | k + 1 => orM f k ||| f k
theorem orM_bit (f : Nat → Nat) (i : Nat) : ∀ k, (orM f k).testBit i = true ↔ ∃ p, p < k ∧ (f p).testBit i = true
  | 0 => by simp [orM]
  | k + 1 => by
    unfold orM
    rw [Nat.testBit_or, Bool.or_eq_true, orM_bit f i k]
    constructor
    · rintro (⟨p, h1, h2⟩ | h)
      · exact ⟨p, by omega, h2⟩
      · exact ⟨k, by omega, h⟩
    · rintro ⟨p, h1, h2⟩
      by_cases e : p = k
      · subst e
        exact Or.inr h2
      · exact Or.inl ⟨p, by omega, h2⟩
theorem orM_lt {f : Nat → Nat} {b : Nat} : ∀ k, (∀ p, p < k → f p < 2 ^ b) → orM f k < 2 ^ b
  | 0, _ => Nat.two_pow_pos _
  | k + 1, h => Nat.or_lt_two_pow (orM_lt k (fun p hp => h p (by omega))) (h k (by omega))
def cnt (f : Nat → Bool) : Nat → Nat
  | 0 => 0
  | j + 1 => cnt f j + if f j = true then 1 else 0
theorem cnt_s (f : Nat → Bool) (j : Nat) : cnt f (j + 1) = cnt f j + if f j = true then 1 else 0 := rfl
theorem cb_s (sh : Nat → Int32) (j : Nat) : cb sh (j + 1) = cb sh j + if sh j = -1 then 1 else 0 := rfl
theorem co_s (sh : Nat → Int32) (j : Nat) : co sh (j + 1) = co sh j + if sh j = -1 then 0 else 1 := rfl
theorem cnt_mono (f : Nat → Bool) {i j : Nat} (h : i ≤ j) : cnt f i ≤ cnt f j := by
  induction j with
  | zero =>
    have : i = 0 := by omega
    subst this
    exact Nat.le_refl _
  | succ j ih =>
    by_cases e : i = j + 1
    · rw [e]
      exact Nat.le_refl _
    · have := ih (by omega)
      rw [cnt_s]
      omega
theorem cnt_lt {f : Nat → Bool} {i j : Nat} (hf : f i = true) (h : i < j) : cnt f i < cnt f j := by
  have := cnt_mono f (show i + 1 ≤ j from h)
  have e : cnt f (i + 1) = cnt f i + 1 := by rw [cnt_s, if_pos hf]
  omega
theorem cnt_inj {f : Nat → Bool} {i j : Nat} (hi : f i = true) (hj : f j = true) (h : cnt f i = cnt f j) : i = j := by
  rcases Nat.lt_trichotomy i j with g | g | g
  · have := cnt_lt hi g
    omega
  · exact g
  · have := cnt_lt hj g
    omega
/-- the place of the slot s -/
def plc (f : Nat → Bool) : Nat → Nat → Nat
  | 0, _ => 0
  | j + 1, s => if f j = true ∧ cnt f j = s then j else plc f j s
theorem plc_ok {f : Nat → Bool} {s : Nat} : ∀ {k}, s < cnt f k → plc f k s < k ∧ f (plc f k s) = true ∧ cnt f (plc f k s) = s
  | 0, h => absurd h (by unfold cnt; omega)
  | k + 1, h => by
    unfold plc
    by_cases e : f k = true ∧ cnt f k = s
    · rw [if_pos e]
      exact ⟨by omega, e.1, e.2⟩
    · rw [if_neg e]
      have h2 : s < cnt f k := by
        rw [cnt_s] at h
        by_cases hf : f k = true
        · rw [if_pos hf] at h
          have : cnt f k ≠ s := fun g => e ⟨hf, g⟩
          omega
        · rw [if_neg hf] at h
          omega
      have := plc_ok h2
      exact ⟨by omega, this.2.1, this.2.2⟩
theorem plc_eq {f : Nat → Bool} {p k : Nat} (hp : p < k) (hf : f p = true) : plc f k (cnt f p) = p := by
  have := plc_ok (s := cnt f p) (k := k) (cnt_lt hf hp)
  exact cnt_inj this.2.1 hf this.2.2
def hidB (Z : XT) (bs p : Nat) : Bool := decide (Z 62 p = -1) || (decide (co (Z 62) p < 8) && bs.testBit (co (Z 62) p))
def laidB (Z : XT) (ps bs p : Nat) : Bool := ps.testBit (cl Z 60 p) && hidB Z bs p
/-- the names shown on the page g; those that they shut out there; the names shown on pages -/
def shm (Z : XT) (bs g k : Nat) : Nat := orM (fun p => if cl Z 60 p = g ∧ hidB Z bs p = false then 2 ^ cl Z 62 p else 0) k
def som (Z : XT) (bs g k : Nat) : Nat := orM (fun p => if cl Z 60 p = g ∧ hidB Z bs p = false then 2 ^ cl Z 62 p ||| cl Z 56 (cl Z 62 p) else 0) k
def spm (Z : XT) (ps bs k : Nat) : Nat := orM (fun p => if ps.testBit (cl Z 60 p) = true ∧ hidB Z bs p = false then 2 ^ cl Z 62 p else 0) k
theorem shm_s (Z : XT) (bs g k : Nat) : shm Z bs g (k + 1) = shm Z bs g k ||| (if cl Z 60 k = g ∧ hidB Z bs k = false then 2 ^ cl Z 62 k else 0) := rfl
theorem som_s (Z : XT) (bs g k : Nat) : som Z bs g (k + 1) = som Z bs g k ||| (if cl Z 60 k = g ∧ hidB Z bs k = false then 2 ^ cl Z 62 k ||| cl Z 56 (cl Z 62 k) else 0) := rfl
theorem spm_s (Z : XT) (ps bs k : Nat) : spm Z ps bs (k + 1) = spm Z ps bs k ||| (if ps.testBit (cl Z 60 k) = true ∧ hidB Z bs k = false then 2 ^ cl Z 62 k else 0) := rfl
def nsl (Z : XT) (ps bs : Nat) : Nat := cnt (laidB Z ps bs) (dK Z)
def pls (Z : XT) (ps bs s : Nat) : Nat := plc (laidB Z ps bs) (dK Z) s
theorem cbco_le (Z : XT) (ps bs : Nat) : ∀ k, cnt (laidB Z ps bs) k ≤ cb (Z 62) k + min (co (Z 62) k) 8
  | 0 => by simp [cnt]
  | k + 1 => by
    have ih := cbco_le Z ps bs k
    rw [cnt_s, cb_s, co_s]
    by_cases h : Z 62 k = -1
    · rw [if_pos h, if_pos h]
      split <;> omega
    · rw [if_neg h, if_neg h]
      by_cases hl : laidB Z ps bs k = true
      · rw [if_pos hl]
        have h8 : co (Z 62) k < 8 := by
          unfold laidB hidB at hl
          simp [h] at hl
          exact hl.2.1
        omega
      · rw [if_neg hl]
        omega
theorem cb_lt {sh : Nat → Int32} {i : Nat} (h : sh i = -1) : ∀ {j}, i < j → cb sh i < cb sh j
  | 0, hj => absurd hj (by omega)
  | j + 1, hj => by
    rw [cb_s]
    by_cases e : i = j
    · subst e
      rw [if_pos h]
      omega
    · have := cb_lt h (show i < j by omega)
      omega
theorem co_lt {sh : Nat → Int32} {i : Nat} (h : ¬ sh i = -1) : ∀ {j}, i < j → co sh i < co sh j
  | 0, hj => absurd hj (by omega)
  | j + 1, hj => by
    rw [co_s]
    by_cases e : i = j
    · subst e
      rw [if_neg h]
      omega
    · have := co_lt h (show i < j by omega)
      omega
theorem cb_inj {sh : Nat → Int32} {i j : Nat} (hi : sh i = -1) (hj : sh j = -1) (h : cb sh i = cb sh j) : i = j := by
  rcases Nat.lt_trichotomy i j with g | g | g
  · have := cb_lt hi g
    omega
  · exact g
  · have := cb_lt hj g
    omega
theorem co_inj {sh : Nat → Int32} {i j : Nat} (hi : ¬ sh i = -1) (hj : ¬ sh j = -1) (h : co sh i = co sh j) : i = j := by
  rcases Nat.lt_trichotomy i j with g | g | g
  · have := co_lt hi g
    omega
  · exact g
  · have := co_lt hj g
    omega
theorem co_le (sh : Nat → Int32) : ∀ k, co sh k ≤ k
  | 0 => by simp [co]
  | k + 1 => by
    have := co_le sh k
    rw [co_s]
    split <;> omega
section LAY
variable {Z X : XT} {Y : YT} {Q : Int32 → XT → YT → Prop} {QV : XT → YT → Prop} {ps bs : Nat}
theorem nsl_le (h : Inv Z) : nsl Z ps bs ≤ 18 := by
  have := cbco_le Z ps bs (dK Z)
  have hB := i_B h
  unfold nsl
  omega
theorem pls_ok {s : Nat} (hs : s < nsl Z ps bs) : pls Z ps bs s < dK Z ∧ laidB Z ps bs (pls Z ps bs s) = true ∧ cnt (laidB Z ps bs) (pls Z ps bs s) = s := plc_ok hs
theorem s_isShown (h : Inv Z) (c : FR Z X) {p : Nat} (hp : p < dK Z) (hb : bs < 2147483648) (hq : Q (bI (hidB Z bs p = false)) X Y) : PX3_isShown (nI p) (nI bs) X Y Q := by
  have hk := i_K h
  have ho := (i_ba h hp).2.1
  have hc := co_le (Z 62) p
  unfold PX3_isShown BX3_isShown_s
  refine ⟨vp_in_nI (by omega) (by omega), fun w hw => ?_⟩
  rw [cl_nI (by omega), c.lo (by omega), ho] at hw
  by_cases h1 : Z 62 p = -1
  · rw [if_pos h1] at hw
    refine ⟨fun _ => ?_, fun g => absurd hw g⟩
    rw [bI_f (by unfold hidB; simp [h1])] at hq
    exact hq
  · rw [if_neg h1] at hw
    subst hw
    refine ⟨fun g => absurd g (nI_ne1 (by omega)), fun _ => ?_⟩
    rw [show (8 : Int32) = nI 8 from rfl, le_nI (by omega) (by omega), eq_has]
    simp only [bI_0, Classical.not_not]
    refine ⟨fun g => ?_, fun g => ?_⟩
    · rw [bI_t (by unfold hidB; simp [h1]; omega)] at hq
      exact hq
    · rw [bx_bit0 hb (by omega)]
      refine ⟨fun g2 => ?_, fun g2 => ?_⟩
      · rw [bI_f (by unfold hidB; simp [h1]; exact ⟨by omega, by simpa using g2⟩)] at hq
        exact hq
      · rw [bI_t (by unfold hidB; simp [h1, g2])] at hq
        exact hq
theorem s_shownOn (h : Inv Z) (c : FR Z X) (hs : ps < 2147483648) (hb : bs < 2147483648) (hq : Q (nI (spm Z ps bs (dK Z))) X Y) : PX0_shownOn (nI ps) (nI bs) X Y Q := by
  intro I5 h5
  have hk := i_K h
  have hN := i_N h
  have hP := i_P h
  unfold BX0_shownOn_s
  have e11 : X 13 11 = nI (dK Z) := by rw [c.lo (by omega), c_K h]; exact hk.2
  refine dn (n := dK Z) (P := fun k => I5 (nI ps) (nI bs) (nI (spm Z ps bs k)) (nI k) X Y) ?_ ?_ 0 (by omega)
  · apply h5
    unfold BX0_shownOn_5
    rw [e11, le_nI (by omega) (by omega)]
    exact ⟨fun _ => hq, fun g => absurd (by omega) g⟩
  · intro k hkk ih
    apply h5
    unfold BX0_shownOn_5
    have hpg := i_pg h hkk
    rw [e11, le_nI (by omega) (by omega), cl_nI (by omega), c.lo (show 16 < 31 by omega), c_16 h, hpg.2, eq_has]
    simp only [bI_0, Classical.not_not]
    rw [bx_bit0 hs (by omega)]
    have no : ¬ (ps.testBit (cl Z 60 k) = true ∧ hidB Z bs k = false) → ∀ w : Int32, w = nI k + 1 → I5 (nI ps) (nI bs) (nI (spm Z ps bs k)) w X Y := by
      intro hn w hw
      have e : spm Z ps bs (k + 1) = spm Z ps bs k := by rw [spm_s, if_neg hn, Nat.or_zero]
      rw [e] at ih
      rw [hw, nI_1]
      exact ih
    refine ⟨fun g => absurd g (by omega), fun _ => ⟨vp_in_nI (by omega) (by omega), fun g => no (fun z => by rw [g] at z; cases z.1), fun g => s_isShown h c hkk hb ?_⟩⟩
    simp only [bI_0]
    refine ⟨fun g2 => no (fun z => g2 z.2), fun g2 => ⟨vp_in_nI (by omega) (by omega), fun w hw w2 hw2 => ?_⟩⟩
    have g3 : hidB Z bs k = false := Classical.not_not.mp g2
    have e1 : ps.testBit (cl Z 60 k) = true := by cases hh : ps.testBit (cl Z 60 k) with
      | true => rfl
      | false => exact absurd hh g
    have hsh : cl Z 62 k < dN Z ∧ Z 62 k = nI (cl Z 62 k) := by
      rcases i_sh h hkk with z | z
      · unfold hidB at g3
        simp [z] at g3
      · exact z
    rw [hw2, hw, nI_1, c.lo (by omega), c_18 h, hsh.2, bx_1shl (by omega), bx_or]
    have e : spm Z ps bs (k + 1) = spm Z ps bs k ||| 2 ^ cl Z 62 k := by rw [spm_s, if_pos ⟨e1, g3⟩]
    rw [e] at ih
    exact ih
theorem s_fill37 (hq : ∀ U : XT, (∀ q, q ≠ 37 → U q = X q) → (∀ j, j < 8 → U 37 j = 0) → QV U Y) : PJ7_fill_53178_37 0 X Y QV := by
  intro I5 h5
  unfold BJ7_fill_53178_37_s
  refine dn (n := 8) (P := fun k => ∀ U : XT, (∀ q, q ≠ 37 → U q = X q) → (∀ j, j < k → U 37 j = 0) → I5 0 (nI k) 8 U Y) ?_ ?_ 0 (by omega) X (fun q _ => rfl) (fun j hj => absurd hj (by omega))
  · intro U g1 g2
    apply h5
    unfold BJ7_fill_53178_37_5
    exact ⟨fun _ => hq U g1 g2, fun g => absurd (by decide) g⟩
  · intro k hk ih U g1 g2
    apply h5
    unfold BJ7_fill_53178_37_5
    rw [show (8 : Int32) = nI 8 from rfl, le_nI (by omega) (by omega)]
    refine ⟨fun g => absurd g (by omega), fun _ => ⟨vp_in_nI (by omega) (by omega), fun w hw => ?_⟩⟩
    rw [hw, nI_1, cl_nI (by omega)]
    refine ih _ (fun q hq => by rw [sX_ne hq]; exact g1 q hq) (fun j hj => ?_)
    rw [sX_eq]
    unfold upd
    by_cases e : j = k
    · rw [if_pos e]
    · rw [if_neg e]
      exact g2 j (by omega)
theorem som_lt (h : Inv Z) {g k : Nat} (hk : k ≤ dK Z) : som Z bs g k < 2 ^ dN Z := by
  refine orM_lt k (fun p hp => ?_)
  split
  · next z =>
    have hsh : cl Z 62 p < dN Z ∧ Z 62 p = nI (cl Z 62 p) := by
      rcases i_sh h (show p < dK Z by omega) with w | w
      · unfold hidB at z
        simp [w] at z
      · exact w
    exact Nat.or_lt_two_pow (Nat.pow_lt_pow_right (by decide) hsh.1) (i_nv h).1
  · exact Nat.two_pow_pos _
theorem s_shutOutBy (h : Inv Z) (c : FR Z X) {n : Nat} (hn : n < dN Z) (hq : Q (nI (2 ^ n ||| cl Z 56 n)) X Y) : PX1_shutOutBy (nI n) X Y Q := by
  have hN := i_N h
  unfold PX1_shutOutBy BX1_shutOutBy_s
  refine ⟨vp_in_nI (by omega) (by omega), ?_⟩
  rw [cl_nI (by omega), c.lo (by omega), c_12 h, (i_nv h).2, bx_1shl (by omega), bx_or]
  exact hq
theorem s_shutOut (h : Inv Z) (c : FR Z X) (hb : bs < 2147483648) (hq : ∀ U : XT, (∀ q, q ≠ 37 → U q = X q) → (∀ g, g < 8 → U 37 g = nI (som Z bs g (dK Z))) → QV U Y) : PX0_shutOutByShown (nI bs) X Y QV := by
  intro I10 h10
  have hk := i_K h
  have hN := i_N h
  have hP := i_P h
  unfold BX0_shutOutByShown_s
  refine s_fill37 (fun V v1 v2 => ?_)
  refine dn (n := dK Z) (P := fun k => ∀ U : XT, (∀ q, q ≠ 37 → U q = X q) → (∀ g, g < 8 → U 37 g = nI (som Z bs g k)) → I10 (nI bs) (nI k) U Y) ?_ ?_ 0 (by omega) V v1 (fun g hg => v2 g hg)
  · intro U u1 u2
    apply h10
    unfold BX0_shutOutByShown_10
    rw [u1 13 (by decide), c.lo (by omega), c_K h, hk.2, le_nI (by omega) (by omega)]
    exact ⟨fun _ => hq U u1 u2, fun g => absurd (by omega) g⟩
  · intro k hkk ih U u1 u2
    apply h10
    unfold BX0_shutOutByShown_10
    have cU : FR Z U := c.trans (FR.only [37] (by intro q hq; simp at hq; omega) (fun q hq => u1 q (by simpa using hq)))
    have hpg := i_pg h hkk
    rw [u1 13 (by decide), c.lo (by omega), c_K h, hk.2, le_nI (by omega) (by omega)]
    refine ⟨fun g => absurd g (by omega), fun _ => s_isShown h cU hkk hb ?_⟩
    simp only [bI_0]
    refine ⟨fun g w hw => ?_, fun g => ?_⟩
    · rw [hw, nI_1]
      refine ih U u1 (fun j hj => ?_)
      rw [u2 j hj, som_s, if_neg (fun z => g z.2), Nat.or_zero]
    · have g3 : hidB Z bs k = false := Classical.not_not.mp g
      have hsh : cl Z 62 k < dN Z ∧ Z 62 k = nI (cl Z 62 k) := by
        rcases i_sh h hkk with z | z
        · unfold hidB at g3
          simp [z] at g3
        · exact z
      rw [cl_nI (by omega), cU.lo (show 16 < 31 by omega), cU.lo (show 18 < 31 by omega), c_16 h, c_18 h, hpg.2, hsh.2, cl_nI (show cl Z 60 k < 2147483648 by omega), u2 _ (by omega)]
      refine ⟨vp_in_nI (by omega) (by omega), vp_in_nI (by omega) (by omega), vp_in_nI (by omega) (by omega), s_shutOutBy h cU hsh.1 ⟨vp_in_nI (by omega) (by omega), fun X13 e13 w hw => ?_⟩⟩
      rw [hw, nI_1, e13, bx_or]
      refine ih _ (fun q hq => by rw [sX_ne hq]; exact u1 q hq) (fun j hj => ?_)
      rw [sX_eq]
      unfold upd
      rw [som_s]
      by_cases e : j = cl Z 60 k
      · rw [if_pos e, if_pos ⟨e.symm, g3⟩, e]
      · rw [if_neg e, if_neg (fun z => e z.1.symm), Nat.or_zero, u2 j hj]
end LAY
