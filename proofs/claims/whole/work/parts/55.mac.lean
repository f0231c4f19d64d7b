/-! THE SEARCH, as a machine of its own: k the slot, a the next to be tried slot by slot (given is one less), t the tries, rs the readings, newest first -/
def nU (a : Nat → Nat) (k v : Nat) : Nat → Nat := fun j => if j = k then v else a j
theorem nU_eq {a : Nat → Nat} {k v : Nat} : nU a k v k = v := by simp [nU]
theorem nU_ne {a : Nat → Nat} {k v j : Nat} (h : j ≠ k) : nU a k v j = a j := by simp [nU, h]
theorem nU_same {a : Nat → Nat} {k : Nat} : nU a k (a k) = a := by
  funext j
  unfold nU
  split
  · next h => rw [h]
  · rfl
theorem nU_nU {a : Nat → Nat} {k v w : Nat} : nU (nU a k v) k w = nU a k w := by
  funext j
  unfold nU
  split <;> rfl
def run (m N w : Nat) (ok : Nat → (Nat → Nat) → Nat → Bool) : Nat → Nat → (Nat → Nat) → Nat → List (Nat → Nat) → Option (Bool × List (Nat → Nat))
  | 0, _, _, _, _ => none
  | f + 1, k, a, t, rs =>
    if N ≤ a k then (if k = 0 then some (false, rs) else run m N w ok f (k - 1) a t rs)
    else if t = 3000 then some (true, rs)
    else if ok k a (a k) = true then
      if k + 1 = m then
        if rs.length = w then some (false, nU a k (a k + 1) :: rs) else run m N w ok f k (nU a k (a k + 1)) (t + 1) (nU a k (a k + 1) :: rs)
      else run m N w ok f (k + 1) (nU (nU a k (a k + 1)) (k + 1) 0) (t + 1) rs
    else run m N w ok f k (nU a k (a k + 1)) (t + 1) rs
/-- what is in the machine's state -/
def St (m N w k : Nat) (a : Nat → Nat) (t : Nat) (rs : List (Nat → Nat)) : Prop :=
  k < m ∧ t ≤ 3000 ∧ rs.length ≤ t ∧ rs.length ≤ w ∧ (∀ j, j < k → 1 ≤ a j ∧ a j ≤ N) ∧ a k ≤ N ∧ ∀ r ∈ rs, ∀ s, s < m → 1 ≤ r s ∧ r s ≤ N
section MAC
variable {m N w : Nat} {ok : Nat → (Nat → Nat) → Nat → Bool} {k t : Nat} {a : Nat → Nat} {rs : List (Nat → Nat)}
theorem St.back (h : St m N w k a t rs) (hk : k ≠ 0) : St m N w (k - 1) a t rs := by
  obtain ⟨h1, h2, h3, h4, h5, h6, h7⟩ := h
  exact ⟨by omega, h2, h3, h4, fun j hj => h5 j (by omega), (h5 (k - 1) (by omega)).2, h7⟩
theorem St.no (h : St m N w k a t rs) (h1 : a k < N) (h2 : t < 3000) : St m N w k (nU a k (a k + 1)) (t + 1) rs := by
  obtain ⟨h1', h2', h3, h4, h5, h6, h7⟩ := h
  exact ⟨h1', by omega, by omega, h4, fun j hj => by rw [nU_ne (by omega)]; exact h5 j hj, by rw [nU_eq]; omega, h7⟩
theorem St.down (h : St m N w k a t rs) (h1 : a k < N) (h2 : t < 3000) (h3 : k + 1 ≠ m) : St m N w (k + 1) (nU (nU a k (a k + 1)) (k + 1) 0) (t + 1) rs := by
  obtain ⟨h1', h2', h3', h4, h5, h6, h7⟩ := h
  refine ⟨by omega, by omega, by omega, h4, fun j hj => ?_, by rw [nU_eq]; omega, h7⟩
  rw [nU_ne (by omega)]
  by_cases e : j = k
  · subst e
    rw [nU_eq]
    omega
  · rw [nU_ne e]
    exact h5 j (by omega)
theorem St.rd (h : St m N w k a t rs) (h1 : a k < N) (h3 : k + 1 = m) : ∀ s, s < m → 1 ≤ nU a k (a k + 1) s ∧ nU a k (a k + 1) s ≤ N := by
  obtain ⟨h1', h2', h3', h4, h5, h6, h7⟩ := h
  intro s hs
  by_cases e : s = k
  · subst e
    rw [nU_eq]
    omega
  · rw [nU_ne e]
    exact h5 s (by omega)
theorem St.rd' (h : St m N w k a t rs) {n : Nat} (hn : n < N) (h3 : k + 1 = m) (_ : a k ≤ n) : ∀ s, s < m → 1 ≤ nU a k (n + 1) s ∧ nU a k (n + 1) s ≤ N := by
  obtain ⟨h1', h2', h3', h4, h5, h6, h7⟩ := h
  intro s hs
  by_cases e : s = k
  · subst e
    rw [nU_eq]
    omega
  · rw [nU_ne e]
    exact h5 s (by omega)
theorem St.read (h : St m N w k a t rs) (h1 : a k < N) (h2 : t < 3000) (h3 : k + 1 = m) (h4 : rs.length ≠ w) : St m N w k (nU a k (a k + 1)) (t + 1) (nU a k (a k + 1) :: rs) := by
  have hr := h.rd h1 h3
  obtain ⟨h1', h2', h3', h4', h5, h6, h7⟩ := h
  refine ⟨h1', by omega, by simp; omega, by simp; omega, fun j hj => by rw [nU_ne (by omega)]; exact h5 j hj, by rw [nU_eq]; omega, fun r hr' => ?_⟩
  rcases List.mem_cons.mp hr' with e | e
  · subst e
    exact hr
  · exact h7 r e
theorem run_ends (hm : m ≤ 18) : ∀ f k a t rs, k < m → t ≤ 3000 → (3001 - t) * 20 + k < f → ∃ res, run m N w ok f k a t rs = some res
  | 0, k, a, t, rs, _, _, h => absurd h (by omega)
  | f + 1, k, a, t, rs, hk, ht, h => by
    unfold run
    by_cases h1 : N ≤ a k
    · rw [if_pos h1]
      by_cases h2 : k = 0
      · rw [if_pos h2]
        exact ⟨_, rfl⟩
      · rw [if_neg h2]
        exact run_ends hm f (k - 1) a t rs (by omega) ht (by omega)
    · rw [if_neg h1]
      by_cases h2 : t = 3000
      · rw [if_pos h2]
        exact ⟨_, rfl⟩
      · rw [if_neg h2]
        split
        · split
          · split
            · exact ⟨_, rfl⟩
            · exact run_ends hm f _ _ _ _ hk (by omega) (by omega)
          · exact run_ends hm f _ _ _ _ (by omega) (by omega) (by omega)
        · exact run_ends hm f _ _ _ _ hk (by omega) (by omega)
/-- what a run that ends has -/
theorem run_end : ∀ f k a t rs L rs', St m N w k a t rs → run m N w ok f k a t rs = some (L, rs') → (∀ r ∈ rs', ∀ s, s < m → 1 ≤ r s ∧ r s ≤ N) ∧ rs'.length ≤ 3000 ∧ rs'.length ≤ w + 1 ∧ (w < rs'.length → L = false)
  | 0, _, _, _, _, _, _, _, h => by cases h
  | f + 1, k, a, t, rs, L, rs', hs, h => by
    have keep : L = L ∧ rs' = rs → (∀ r ∈ rs', ∀ s, s < m → 1 ≤ r s ∧ r s ≤ N) ∧ rs'.length ≤ 3000 ∧ rs'.length ≤ w + 1 ∧ (w < rs'.length → L = false) := by
      rintro ⟨-, e⟩
      subst e
      obtain ⟨h1', h2', h3', h4', h5, h6, h7⟩ := hs
      exact ⟨h7, by omega, by omega, fun z => absurd z (by omega)⟩
    unfold run at h
    by_cases h1 : N ≤ a k
    · rw [if_pos h1] at h
      by_cases h2 : k = 0
      · rw [if_pos h2] at h
        cases h
        exact keep ⟨rfl, rfl⟩
      · rw [if_neg h2] at h
        exact run_end f _ _ _ _ _ _ (hs.back h2) h
    · rw [if_neg h1] at h
      by_cases h2 : t = 3000
      · rw [if_pos h2] at h
        cases h
        exact keep ⟨rfl, rfl⟩
      · rw [if_neg h2] at h
        have ht : t < 3000 := by have := hs.2.1; omega
        by_cases h3 : ok k a (a k) = true
        · rw [if_pos h3] at h
          by_cases h4 : k + 1 = m
          · rw [if_pos h4] at h
            by_cases h5 : rs.length = w
            · rw [if_pos h5] at h
              cases h
              obtain ⟨h1', h2', h3', h4', h5', h6, h7⟩ := id hs
              refine ⟨fun r hr => ?_, by simp; omega, by simp; omega, fun _ => rfl⟩
              rcases List.mem_cons.mp hr with e | e
              · subst e
                exact hs.rd (by omega) h4
              · exact h7 r e
            · rw [if_neg h5] at h
              exact run_end f _ _ _ _ _ _ (hs.read (by omega) ht h4 h5) h
          · rw [if_neg h4] at h
            exact run_end f _ _ _ _ _ _ (hs.down (by omega) ht h4) h
        · rw [if_neg h3] at h
          exact run_end f _ _ _ _ _ _ (hs.no (by omega) ht) h
/-- names passed over are tries -/
theorem run_skip (hok : ∀ k a b n, (∀ j, j < k → a j = b j) → ok k a n = ok k b n) {res : Bool × List (Nat → Nat)} : ∀ d f a t, a k + d ≤ N → (∀ i, i < d → ok k a (a k + i) = false) → t ≤ 3000 → run m N w ok f k a t rs = some res → (3000 < t + d ∧ res = (true, rs)) ∨ (t + d ≤ 3000 ∧ ∃ f', f' ≤ f ∧ run m N w ok f' k (nU a k (a k + d)) (t + d) rs = some res)
  | 0, f, a, t, h1, h2, h3, h => Or.inr ⟨by omega, f, Nat.le_refl _, by rw [Nat.add_zero, Nat.add_zero, nU_same]; exact h⟩
  | d + 1, 0, a, t, h1, h2, h3, h => by cases h
  | d + 1, f + 1, a, t, h1, h2, h3, h => by
    unfold run at h
    rw [if_neg (show ¬ N ≤ a k by omega)] at h
    by_cases h4 : t = 3000
    · rw [if_pos h4] at h
      cases h
      exact Or.inl ⟨by omega, rfl⟩
    · rw [if_neg h4] at h
      have h5 := h2 0 (by omega)
      rw [Nat.add_zero] at h5
      rw [if_neg (by rw [h5]; decide)] at h
      have := run_skip hok d f (nU a k (a k + 1)) (t + 1) (by rw [nU_eq]; omega) (fun i hi => by
        rw [nU_eq, hok k _ a _ (fun j hj => nU_ne (by omega))]
        have := h2 (i + 1) (by omega)
        rw [show a k + 1 + i = a k + (i + 1) by omega]
        exact this) (by omega) h
      rw [nU_eq, nU_nU, show a k + 1 + d = a k + (d + 1) by omega, show t + 1 + d = t + (d + 1) by omega] at this
      rcases this with ⟨z1, z2⟩ | ⟨z1, f', z2, z3⟩
      · exact Or.inl ⟨z1, z2⟩
      · exact Or.inr ⟨z1, f', by omega, z3⟩
end MAC
/-- may the name n stand at the slot k, behind what is given -/
def okS (pg al nv : Nat → Nat) (tw : Nat → Nat → Bool) (k : Nat) (a : Nat → Nat) (n : Nat) : Bool := (al k).testBit n && decide (∀ x, x < k → (pg x = pg k → ¬ a x - 1 = n ∧ (nv (a x - 1)).testBit n = false) ∧ (tw k x = true → a x - 1 = n))
theorem okS_congr {pg al nv : Nat → Nat} {tw : Nat → Nat → Bool} (k : Nat) (a b : Nat → Nat) (n : Nat) (h : ∀ j, j < k → a j = b j) : okS pg al nv tw k a n = okS pg al nv tw k b n := by
  unfold okS
  congr 1
  apply decide_eq_decide.mpr
  constructor
  · intro g x hx
    rw [← h x hx]
    exact g x hx
  · intro g x hx
    rw [h x hx]
    exact g x hx
theorem okS_iff {pg al nv : Nat → Nat} {tw : Nat → Nat → Bool} {k : Nat} {a : Nat → Nat} {n : Nat} : okS pg al nv tw k a n = true ↔ (al k).testBit n = true ∧ (∀ x, x < k → pg x = pg k → ¬ a x - 1 = n ∧ (nv (a x - 1)).testBit n = false) ∧ ∀ x, x < k → tw k x = true → a x - 1 = n := by
  unfold okS
  rw [Bool.and_eq_true, decide_eq_true_iff]
  exact ⟨fun h => ⟨h.1, fun x hx => (h.2 x hx).1, fun x hx => (h.2 x hx).2⟩, fun h => ⟨h.1, fun x hx => ⟨h.2.1 x hx, h.2.2 x hx⟩⟩⟩
/-! what is gathered of readings -/
def tMay (s : Nat) : List (Nat → Nat) → Nat
  | [] => 0
  | r :: rs => tMay s rs ||| 2 ^ (r s - 1)
def tSet (r : Nat → Nat) (m : Nat) : Nat := orM (fun s => 2 ^ (r s - 1)) m
def tEach (m e : Nat) : List (Nat → Nat) → Nat
  | [] => e
  | r :: rs => tEach m e rs &&& tSet r m
def tSome (m : Nat) : List (Nat → Nat) → Nat
  | [] => 0
  | r :: rs => tSome m rs ||| tSet r m
def tProd (wt : Nat → Int32) (r : Nat → Nat) : Nat → Int64
  | 0 => 1
  | s + 1 => tProd wt r s * (wt (r s - 1)).toInt64
def tAll (wt : Nat → Int32) (m : Nat) : List (Nat → Nat) → Int64
  | [] => 0
  | r :: rs => tAll wt m rs + tProd wt r m
def tPart (wt : Nat → Int32) (m b n : Nat) : List (Nat → Nat) → Int64
  | [] => 0
  | r :: rs => tPart wt m b n rs + if r b - 1 = n then tProd wt r m else 0
theorem tProd_congr {wt : Nat → Int32} {r r' : Nat → Nat} : ∀ {m}, (∀ j, j < m → r j = r' j) → tProd wt r m = tProd wt r' m
  | 0, _ => rfl
  | m + 1, h => by
    unfold tProd
    rw [tProd_congr (fun j hj => h j (by omega)), h m (by omega)]
theorem orM_congr {f g : Nat → Nat} : ∀ {m}, (∀ j, j < m → f j = g j) → orM f m = orM g m
  | 0, _ => rfl
  | m + 1, h => by
    unfold orM
    rw [orM_congr (fun j hj => h j (by omega)), h m (by omega)]
theorem tMay_lt {N s m : Nat} (hs : s < m) : ∀ {rs : List (Nat → Nat)}, (∀ r ∈ rs, ∀ s, s < m → 1 ≤ r s ∧ r s ≤ N) → tMay s rs < 2 ^ N
  | [], _ => Nat.two_pow_pos _
  | r :: rs, h => by
    have := h r (List.mem_cons_self ..) s hs
    exact Nat.or_lt_two_pow (tMay_lt hs (fun r' hr => h r' (List.mem_cons_of_mem _ hr))) (Nat.pow_lt_pow_right (by decide) (by omega))
theorem tSet_lt {N m : Nat} {r : Nat → Nat} (h : ∀ s, s < m → 1 ≤ r s ∧ r s ≤ N) : tSet r m < 2 ^ N := orM_lt m (fun p hp => Nat.pow_lt_pow_right (by decide) (by have := h p hp; omega))
