/-! page: places that come behind; the picture of the pages, one side -/
theorem pu_pu {f : Nat → Int32} {k : Nat} {a b : Int32} : upd (upd f k a) k b = upd f k b := by
  funext j
  by_cases e : j = k
  · rw [e, pk_us, pk_us]
  · rw [pk_un e, pk_un e, pk_un e]
def itr (f g : Nat → Int32) (K : Nat) : Nat → (Nat → Int32)
  | 0 => f
  | j + 1 => upd (itr f g K j) (K + j) (g j)
def itp (f sh : Nat → Int32) (B K : Nat) : Nat → (Nat → Int32)
  | 0 => f
  | j + 1 => if sh j = -1 then upd (itp f sh B K j) (B + cb sh j) (nI (K + j)) else itp f sh B K j
def gO (sh : Nat → Int32) (O : Nat) : Nat → Int32 := fun q => if sh q = -1 then -1 else nI (O + co sh q)
def gB (sh : Nat → Int32) (B : Nat) : Nat → Int32 := fun q => if sh q = -1 then nI (B + cb sh q) else -1
theorem cb_upd {sh : Nat → Int32} {K : Nat} {x : Int32} : ∀ {j}, j ≤ K → cb (upd sh K x) j = cb sh j
  | 0, _ => rfl
  | j + 1, h => by
    unfold cb
    rw [cb_upd (by omega), upd_k (by omega)]
theorem co_upd {sh : Nat → Int32} {K : Nat} {x : Int32} : ∀ {j}, j ≤ K → co (upd sh K x) j = co sh j
  | 0, _ => rfl
  | j + 1, h => by
    unfold co
    rw [co_upd (by omega), upd_k (by omega)]
theorem pcb_s {sh : Nat → Int32} {j : Nat} : cb sh (j + 1) = cb sh j + if sh j = -1 then 1 else 0 := rfl
theorem pco_s {sh : Nat → Int32} {j : Nat} : co sh (j + 1) = co sh j + if sh j = -1 then 0 else 1 := rfl
theorem pcb_le {sh : Nat → Int32} : ∀ j, cb sh j ≤ j
  | 0 => Nat.le_refl _
  | j + 1 => by
    have := pcb_le (sh := sh) j
    rw [pcb_s]
    split <;> omega
theorem pco_le {sh : Nat → Int32} : ∀ j, co sh j ≤ j
  | 0 => Nat.le_refl _
  | j + 1 => by
    have := pco_le (sh := sh) j
    rw [pco_s]
    split <;> omega
def G1P (N P K B : Nat) (dy fo pg oc sh op ba bw po : Nat → Int32) : Prop :=
  N ≤ 10 ∧ P ≤ 8 ∧ K ≤ 4 * P ∧ B ≤ 10 ∧ B = cb sh K ∧
  (∀ j, j < P → ∃ v, v < 100 ∧ dy j = nI v) ∧ (∀ j, j < P → ∃ v, v < 2 ∧ fo j = nI v) ∧
  (∀ j, j < K → ∃ v, v < P ∧ pg j = nI v) ∧ (∀ i j, i ≤ j → j < K → pg i ≤ pg j) ∧ (∀ j, j < K → ∃ v, v < 4 ∧ oc j = nI v) ∧ (∀ j, j < K → sh j = -1 ∨ ∃ v, v < N ∧ sh j = nI v) ∧
  (∀ j, j < K → ba j = if sh j = -1 then nI (cb sh j) else -1) ∧ (∀ j, j < K → op j = if sh j = -1 then -1 else nI (co sh j)) ∧ (∀ j, j < K → ∃ v, v ≤ 200 ∧ bw j = nI v) ∧ (∀ i, i < B → ∃ j, j < K ∧ po i = nI j ∧ sh j = -1 ∧ cb sh j = i)
theorem plt_upd {P : Nat → Int32 → Prop} {f : Nat → Int32} {K : Nat} {v : Int32} (h : ∀ j, j < K → P j (f j)) (hv : P K v) : ∀ j, j < K + 1 → P j (upd f K v j) := by
  intro j hj
  by_cases e : j = K
  · rw [e, pk_us]
    exact hv
  · rw [pk_un e]
    exact h j (by omega)
theorem G1P.add {N P K B v w : Nat} {x : Int32} {dy fo pg oc sh op ba bw po : Nat → Int32} (h : G1P N (P + 1) K B dy fo pg oc sh op ba bw po) (hK : K < 4 * (P + 1)) (hv : v < 4) (hw : w ≤ 200) (hx : (x = -1 ∧ B < 10) ∨ ∃ n, n < N ∧ x = nI n) :
    G1P N (P + 1) (K + 1) (B + if x = -1 then 1 else 0) dy fo (upd pg K (nI P)) (upd oc K (nI v)) (upd sh K x) (upd op K (if x = -1 then -1 else nI (co sh K))) (upd ba K (if x = -1 then nI (cb sh K) else -1)) (upd bw K (nI w)) (if x = -1 then upd po B (nI K) else po) := by
  obtain ⟨h1, h2, h3, h4, h5, h6, h7, h8, h9, h10, h11, h12, h13, h14, h15⟩ := h
  refine ⟨h1, h2, by omega, ?_, ?_, h6, h7, ?_, ?_, ?_, ?_, ?_, ?_, ?_, ?_⟩
  · rcases hx with ⟨hx, hb⟩ | ⟨n, hn, hx⟩
    · rw [if_pos hx]
      omega
    · rw [if_neg (by rw [hx]; exact nI_ne1 (by omega))]
      omega
  · rw [pcb_s, cb_upd (Nat.le_refl _), pk_us, h5]
  · exact plt_upd (P := fun _ z => ∃ v, v < P + 1 ∧ z = nI v) h8 ⟨P, by omega, rfl⟩
  · intro i j hij hj
    by_cases e : j = K
    · rw [e, pk_us]
      by_cases e2 : i = K
      · rw [e2, pk_us]
        exact Int32.le_refl _
      · rw [pk_un e2]
        obtain ⟨v, hv, e3⟩ := h8 i (by omega)
        rw [e3, le_nI (by omega) (by omega)]
        omega
    · rw [pk_un e, pk_un (by omega)]
      exact h9 i j hij (by omega)
  · exact plt_upd (P := fun _ z => ∃ v, v < 4 ∧ z = nI v) h10 ⟨v, hv, rfl⟩
  · refine plt_upd (P := fun _ z => z = -1 ∨ ∃ v, v < N ∧ z = nI v) h11 ?_
    rcases hx with ⟨hx, hb⟩ | ⟨n, hn, hx⟩
    · exact Or.inl hx
    · exact Or.inr ⟨n, hn, hx⟩
  · intro j hj
    rw [cb_upd (by omega)]
    by_cases e : j = K
    · rw [e, pk_us, pk_us]
    · rw [pk_un e, pk_un e]
      exact h12 j (by omega)
  · intro j hj
    rw [co_upd (by omega)]
    by_cases e : j = K
    · rw [e, pk_us, pk_us]
    · rw [pk_un e, pk_un e]
      exact h13 j (by omega)
  · exact plt_upd (P := fun _ z => ∃ v, v ≤ 200 ∧ z = nI v) h14 ⟨w, hw, rfl⟩
  · have old : ∀ i, i < B → ∃ j, j < K + 1 ∧ po i = nI j ∧ upd sh K x j = -1 ∧ cb (upd sh K x) j = i := by
      intro i hi
      obtain ⟨j, j1, j2, j3, j4⟩ := h15 i hi
      exact ⟨j, by omega, j2, by rw [upd_k j1]; exact j3, by rw [cb_upd (by omega)]; exact j4⟩
    intro i hi
    by_cases e : x = -1
    · rw [if_pos e] at hi ⊢
      by_cases ei : i = B
      · rw [ei, pk_us]
        exact ⟨K, by omega, rfl, by rw [pk_us]; exact e, by rw [cb_upd (Nat.le_refl _)]; exact h5.symm⟩
      · rw [pk_un ei]
        exact old i (by omega)
    · rw [if_neg e] at hi ⊢
      exact old i (by omega)
/-- what may stand in the places of a page that has no fault -/
def OKp (N B k nb : Nat) (oc sh wd : Nat → Int32) : Prop :=
  (∀ j, j < k → ∃ v, v < 4 ∧ oc j = nI v) ∧ (∀ j, j < k → sh j = -1 ∨ ∃ n, n < N ∧ sh j = nI n) ∧ (∀ j, j < k → ∃ w, w ≤ 200 ∧ wd j = nI w) ∧ nb = B + cb sh k ∧ nb ≤ 10 ∧ k ≤ 4
theorem OKp.step {Z : XT} {t N B i k nb : Nat} {oc sh wd : Nat → Int32} (hN : N ≤ 10) (h : OKp N B k nb oc sh wd) (hp : (plF Z t N i k nb sh).1 = 0) : OKp N B (k + 1) (plB Z t i nb) (upd oc k (nI (plO Z t i))) (upd sh k (plS Z t N i)) (upd wd k (plW Z t i)) := by
  obtain ⟨h1, h2, h3, h4, h5, h6⟩ := h
  obtain ⟨p1, p2, p3, p4⟩ := plF_ok h5 hp
  have hle := plB_le h5 hp
  refine ⟨plt_upd (P := fun _ z => ∃ v, v < 4 ∧ z = nI v) h1 ⟨_, p3, rfl⟩, plt_upd (P := fun _ z => z = -1 ∨ ∃ n, n < N ∧ z = nI n) h2 ?_, plt_upd (P := fun _ z => ∃ w, w ≤ 200 ∧ z = nI w) h3 ?_, ?_, hle, by omega⟩
  · rcases p4 with ⟨q1, q2, q3, q4⟩ | ⟨n, q0, q1, q2, q3⟩
    · exact Or.inl q1
    · exact Or.inr ⟨n, q0, q1⟩
  · rcases p4 with ⟨q1, q2, q3, q4⟩ | ⟨n, q0, q1, q2, q3⟩
    · exact q4
    · exact ⟨0, by omega, q3⟩
  · rw [pcb_s, cb_upd (Nat.le_refl _), pk_us]
    rcases p4 with ⟨q1, q2, q3, q4⟩ | ⟨n, q0, q1, q2, q3⟩
    · rw [q1, q2, if_pos rfl, h4]
      omega
    · rw [q1, q2, if_neg (nI_ne1 (by omega)), h4]
      omega
theorem lp_ok {Z : XT} {t N B : Nat} (hN : N ≤ 10) : ∀ d i k nb oc sh wd, OKp N B k nb oc sh wd → (lp Z t N d i k nb oc sh wd).1.1 = 0 → OKp N B (lp Z t N d i k nb oc sh wd).2.1 (lp Z t N d i k nb oc sh wd).2.2.1 (lp Z t N d i k nb oc sh wd).2.2.2.1 (lp Z t N d i k nb oc sh wd).2.2.2.2.1 (lp Z t N d i k nb oc sh wd).2.2.2.2.2 := by
  intro d
  induction d with
  | zero =>
    intro i k nb oc sh wd h hf
    exact absurd (show (1 : Nat) = 0 from hf) (by omega)
  | succ d ih =>
    intro i k nb oc sh wd h hf
    unfold lp at hf ⊢
    by_cases g : (plF Z t N i k nb sh).1 = 0
    · rw [if_pos g] at hf ⊢
      by_cases g2 : sk (Z 2) t (plE Z t i) < t
      · rw [if_pos g2] at hf ⊢
        by_cases g3 : Z 2 (sk (Z 2) t (plE Z t i)) = 44
        · rw [if_pos g3] at hf ⊢
          exact ih _ _ _ _ _ _ (h.step hN g) hf
        · rw [if_neg g3] at hf
          exact absurd (show (1 : Nat) = 0 from hf) (by omega)
      · rw [if_neg g2]
        exact h.step hN g
    · rw [if_neg g] at hf
      exact absurd hf g
theorem pgR_ok {Z : XT} {t N B : Nat} (hN : N ≤ 10) (hB : B ≤ 10) (hf : (pgR Z t N B).1.1 = 0) : OKp N B (pgR Z t N B).2.1 (pgR Z t N B).2.2.1 (pgR Z t N B).2.2.2.1 (pgR Z t N B).2.2.2.2.1 (pgR Z t N B).2.2.2.2.2 ∧ (hdP (Z 2) t).1 = 0 := by
  by_cases g : (hdP (Z 2) t).1 = 0
  · have e : pgR Z t N B = _ := if_pos g
    rw [e] at hf ⊢
    exact ⟨lp_ok hN 5 _ 0 B z0 z0 z0 ⟨fun j hj => absurd hj (by omega), fun j hj => absurd hj (by omega), fun j hj => absurd hj (by omega), rfl, hB, by omega⟩ hf, g⟩
  · have e : pgR Z t N B = _ := if_neg g
    rw [e] at hf
    exact absurd hf g
/-- all the new places -/
theorem G1P.all {N P K B O k nb : Nat} {dy fo pg oc0 sh0 op ba bw po oc sh wd : Nat → Int32} (h : G1P N (P + 1) K B dy fo pg oc0 sh0 op ba bw po) (hO : O = co sh0 K) (hK : K ≤ 4 * P) (ok : OKp N B k nb oc sh wd) : ∀ j, j ≤ k →
    G1P N (P + 1) (K + j) (B + cb sh j) dy fo (itr pg (fun _ => nI P) K j) (itr oc0 oc K j) (itr sh0 sh K j) (itr op (gO sh O) K j) (itr ba (gB sh B) K j) (itr bw wd K j) (itp po sh B K j) ∧ cb (itr sh0 sh K j) (K + j) = B + cb sh j ∧ co (itr sh0 sh K j) (K + j) = O + co sh j := by
  intro j
  induction j with
  | zero =>
    intro _
    exact ⟨h, h.2.2.2.2.1.symm, hO.symm⟩
  | succ j ih =>
    intro hj
    obtain ⟨g, g1, g2⟩ := ih (by omega)
    obtain ⟨k1, k2, k3, k4, k5, k6⟩ := ok
    obtain ⟨v, hv, ev⟩ := k1 j (by omega)
    obtain ⟨w, hw, ew⟩ := k3 j (by omega)
    have mono : ∀ d, cb sh (j + 1) ≤ cb sh (j + 1 + d) := by
      intro d
      induction d with
      | zero => exact Nat.le_refl _
      | succ d ihd =>
        have e : cb sh (j + 1 + (d + 1)) = cb sh (j + 1 + d) + if sh (j + 1 + d) = -1 then 1 else 0 := rfl
        rw [e]
        omega
    have m1 := mono (k - (j + 1))
    rw [show j + 1 + (k - (j + 1)) = k by omega] at m1
    have hx : (sh j = -1 ∧ B + cb sh j < 10) ∨ ∃ n, n < N ∧ sh j = nI n := by
      rcases k2 j (by omega) with e | e
      · refine Or.inl ⟨e, ?_⟩
        rw [pcb_s, if_pos e] at m1
        omega
      · exact Or.inr e
    have := g.add (by omega) hv hw hx
    refine ⟨?_, ?_, ?_⟩
    · rw [g1, g2, ← ev, ← ew] at this
      rw [pcb_s, ← Nat.add_assoc B]
      exact this
    · show cb (upd (itr sh0 sh K j) (K + j) (sh j)) (K + j + 1) = _
      rw [pcb_s, cb_upd (Nat.le_refl _), pk_us, g1, pcb_s]
      omega
    · show co (upd (itr sh0 sh K j) (K + j) (sh j)) (K + j + 1) = _
      rw [pco_s, co_upd (Nat.le_refl _), pk_us, g2, pco_s]
      omega
