/-! THE INVARIANT between the class's cells (0 .. 47) and the reference's (48 .. 79), in groups -/
theorem cl_nI {n : Nat} (h : n < 2147483648) : (nI n).toNatClampNeg = n := nI_clamp (by omega)
/-- a sum of widths: k letters of the name j in the fount f -/
def wsumN (w l : Nat → Int32) (f j : Nat) : Nat → Int32
  | 0 => 0
  | k + 1 => wsumN w l f j k + w (26 * f + (l (12 * j + k)).toNatClampNeg)
def wsum (w l s : Nat → Int32) (f j : Nat) : Int32 := wsumN w l f j (s j).toNatClampNeg
def gS (a a' : Int32) : Prop := a = a' ∧ ∃ v, v ≤ 9 ∧ a' = nI v
def gK (a a' n : Int32) : Prop := a = a' ∧ ∃ N m, N ≤ 10 ∧ n = nI N ∧ m < 2 ^ N ∧ a' = nI m
def gT (t t' : Int32) (b b' : Nat → Int32) : Prop := t = t' ∧ b = b' ∧ (∃ k, k ≤ 120 ∧ t' = nI k) ∧ ∀ j, ∃ c, c < 256 ∧ b' j = nI c
def gN (n n' : Int32) (w w' l l' s s' wc : Nat → Int32) : Prop := n = n' ∧ w = w' ∧ l = l' ∧ s = s' ∧ ∃ N, N ≤ 10 ∧ n' = nI N ∧ (∀ j, j < 52 → ∃ v, 1 ≤ v ∧ v ≤ 20 ∧ w' j = nI v) ∧ (∀ j, ∃ v, v < 26 ∧ l' j = nI v) ∧ (∀ j, ∃ v, v ≤ 12 ∧ s' j = nI v) ∧ (∀ j, j < N → ∃ v, 1 ≤ v ∧ v ≤ 12 ∧ s' j = nI v) ∧ ∀ f j, f < 2 → j < N → wc (10 * f + j) = wsum w' l' s' f j
def gA (n : Int32) (o o' a a' z z' g g' : Nat → Int32) : Prop := o = o' ∧ a = a' ∧ z = z' ∧ g = g' ∧ (∀ j, ∃ v, v < 16 ∧ o' j = nI v) ∧ (∀ j, ∃ v, v < 100 ∧ a' j = nI v) ∧ (∀ j, ∃ v, v < 100 ∧ z' j = nI v) ∧ (∀ j, ∃ v, v ≤ 9 ∧ g' j = nI v) ∧ ∃ N, N ≤ 10 ∧ n = nI N ∧ ∀ j, j < N → ∃ v, 1 ≤ v ∧ v ≤ 9 ∧ g' j = nI v
def gV (n : Int32) (v v' : Nat → Int32) : Prop := v = v' ∧ ∃ N, N ≤ 10 ∧ n = nI N ∧ ∃ f : Nat → Nat, (∀ j, v' j = nI (f j)) ∧ (∀ j, f j < 2 ^ N) ∧ ∀ i j, (f i).testBit j = (f j).testBit i
/-- how many of the first j places are bars -/
def cb (sh : Nat → Int32) : Nat → Nat
  | 0 => 0
  | j + 1 => cb sh j + if sh j = -1 then 1 else 0
def co (sh : Nat → Int32) : Nat → Nat
  | 0 => 0
  | j + 1 => co sh j + if sh j = -1 then 0 else 1
def gP (n p p' k k' o b b' : Int32) (dy dy' fo fo' pg pg' oc oc' sh sh' op ba ba' bw bw' po po' : Nat → Int32) : Prop :=
  p = p' ∧ k = k' ∧ b = b' ∧ dy = dy' ∧ fo = fo' ∧ pg = pg' ∧ oc = oc' ∧ sh = sh' ∧ ba = ba' ∧ bw = bw' ∧ po = po' ∧
  ∃ N P K B, N ≤ 10 ∧ n = nI N ∧ P ≤ 8 ∧ p' = nI P ∧ K ≤ 4 * P ∧ k' = nI K ∧ B ≤ 10 ∧ b' = nI B ∧ B = cb sh' K ∧ o = nI (co sh' K) ∧
  (∀ j, j < P → ∃ v, v < 100 ∧ dy' j = nI v) ∧ (∀ j, j < P → ∃ v, v < 2 ∧ fo' j = nI v) ∧
  (∀ j, j < K → ∃ v, v < P ∧ pg' j = nI v) ∧ (∀ i j, i ≤ j → j < K → pg' i ≤ pg' j) ∧ (∀ j, j < K → ∃ v, v < 4 ∧ oc' j = nI v) ∧ (∀ j, j < K → sh' j = -1 ∨ ∃ v, v < N ∧ sh' j = nI v) ∧
  (∀ j, j < K → ba' j = if sh' j = -1 then nI (cb sh' j) else -1) ∧ (∀ j, j < K → op j = if sh' j = -1 then -1 else nI (co sh' j)) ∧ (∀ j, j < K → ∃ v, v ≤ 200 ∧ bw' j = nI v) ∧ (∀ i, i < B → ∃ j, j < K ∧ po' i = nI j ∧ sh' j = -1 ∧ cb sh' j = i)
/-- two bars are a pair -/
def prd (A B : Nat → Int32) (T : Nat) (b c : Nat) : Prop := ∃ t, t < T ∧ ((A t = nI b ∧ B t = nI c) ∨ (A t = nI c ∧ B t = nI b))
def gW (b t t' : Int32) (m A B : Nat → Int32) : Prop := t = t' ∧ ∃ Bn T, Bn ≤ 10 ∧ b = nI Bn ∧ T ≤ 10 ∧ t' = nI T ∧ (∀ k, k < T → ∃ x y, x < Bn ∧ y < Bn ∧ x ≠ y ∧ A k = nI x ∧ B k = nI y) ∧ ∃ f : Nat → Nat, (∀ j, m j = nI (f j)) ∧ (∀ j, f j < 1024) ∧ ∀ i j, i < 10 → j < 10 → ((f i).testBit j = true ↔ prd A B T i j)
def gR (n : Int32) (a a' k k' : Nat → Int32) : Prop := a = a' ∧ k = k' ∧ ∃ N, N ≤ 10 ∧ n = nI N ∧ (∀ j, ∃ m, m < 2 ^ N ∧ a' j = nI m) ∧ ∀ j, j < 40 → k' j = -1 ∨ ∃ v, v < N ∧ k' j = nI v
def Inv (X : XT) : Prop :=
  gS (X 0 8) (X 48 9) ∧ gK (X 0 9) (X 48 10) (X 48 1) ∧ X 0 10 = X 48 31 ∧ gT (X 1 1) (X 48 12) (X 2) (X 57) ∧ gN (X 3 9) (X 48 1) (X 4) (X 49) (X 5) (X 50) (X 6) (X 51) (X 7) ∧
  gA (X 48 1) (X 8) (X 52) (X 9) (X 53) (X 10) (X 54) (X 11) (X 55) ∧ gV (X 48 1) (X 12) (X 56) ∧
  gP (X 48 1) (X 13 10) (X 48 13) (X 13 11) (X 48 16) (X 13 12) (X 13 13) (X 48 22) (X 14) (X 58) (X 15) (X 59) (X 16) (X 60) (X 17) (X 61) (X 18) (X 62) (X 19) (X 20) (X 63) (X 21) (X 64) (X 22) (X 65) ∧
  gW (X 48 22) (X 13 14) (X 48 24) (X 23) (X 66) (X 67) ∧ gR (X 48 1) (X 29) (X 78) (X 30) (X 79)
theorem inv_0 : Inv X0 := by
  refine ⟨⟨rfl, 0, by omega, rfl⟩, ⟨rfl, 0, 0, by omega, rfl, by omega, rfl⟩, rfl, ⟨rfl, rfl, ⟨0, by omega, rfl⟩, fun j => ⟨0, by omega, rfl⟩⟩, ⟨rfl, rfl, rfl, rfl, 0, by omega, rfl, ?_, fun j => ⟨0, by omega, rfl⟩, fun j => ⟨0, by omega, rfl⟩, fun j hj => absurd hj (by omega), fun f j _ hj => absurd hj (by omega)⟩, ⟨rfl, rfl, rfl, rfl, fun j => ⟨0, by omega, rfl⟩, fun j => ⟨0, by omega, rfl⟩, fun j => ⟨0, by omega, rfl⟩, fun j => ⟨0, by omega, rfl⟩, 0, by omega, rfl, fun j hj => absurd hj (by omega)⟩, ⟨rfl, 0, by omega, rfl, fun _ => 0, fun j => rfl, fun j => by show (0 : Nat) < _; decide, fun i j => by simp⟩, ?_, ⟨rfl, 0, 0, by omega, rfl, by omega, rfl, fun k hk => absurd hk (by omega), fun _ => 0, fun j => rfl, fun j => by show (0 : Nat) < _; decide, fun i j _ _ => ⟨fun g => absurd (show (0 : Nat).testBit j = true from g) (by rw [Nat.zero_testBit]; decide), fun ⟨t, ht, _⟩ => absurd ht (by omega)⟩⟩, ⟨rfl, rfl, 0, by omega, rfl, fun j => ⟨0, by omega, rfl⟩, ?_⟩⟩
  · intro j hj
    exact ⟨5, by omega, by omega, by show fillN 52 5 (fun _ => 0) j = _; simp [fillN, hj]; rfl⟩
  · exact ⟨rfl, rfl, rfl, rfl, rfl, rfl, rfl, rfl, rfl, rfl, rfl, 0, 0, 0, 0, by omega, rfl, by omega, rfl, by omega, rfl, by omega, rfl, rfl, rfl, fun j hj => absurd hj (by omega), fun j hj => absurd hj (by omega), fun j hj => absurd hj (by omega), fun i j _ hj => absurd hj (by omega), fun j hj => absurd hj (by omega), fun j hj => absurd hj (by omega), fun j hj => absurd hj (by omega), fun j hj => absurd hj (by omega), fun j hj => absurd hj (by omega), fun i hi => absurd hi (by omega)⟩
  · intro j hj
    left
    show fillN 40 (-1) (fun _ => 0) j = _
    simp [fillN, hj]
