/-! page: the class's parser from its start; the page read as a whole -/
def hd1 (b : Nat → Int32) (t : Nat) : Nat := wE b t 0
def hd2 (b : Nat → Int32) (t : Nat) : Nat := nE b t (hd1 b t)
def hd3 (b : Nat → Int32) (t : Nat) : Nat := wE b t (hd2 b t)
def hd4 (b : Nat → Int32) (t : Nat) : Nat := nE b t (hd3 b t)
def hd5 (b : Nat → Int32) (t : Nat) : Nat := sE b t 58 (hd4 b t)
def hdP (b : Nat → Int32) (t : Nat) : Nat × Int32 := flF (flF (flF (flF (flF (0, -1) (wF b t 0 0)) (nF b t 0 99 (hd1 b t))) (wF b t 1 (hd2 b t))) (nF b t 0 1 (hd3 b t))) (sF b t 58 (hd4 b t))
def z0 : Nat → Int32 := fun _ => 0
def pgR (Z : XT) (t N B : Nat) : (Nat × Int32) × Nat × Nat × (Nat → Int32) × (Nat → Int32) × (Nat → Int32) :=
  if (hdP (Z 2) t).1 = 0 then lp Z t N 5 (hd5 (Z 2) t) 0 B z0 z0 z0 else (hdP (Z 2) t, 0, B, z0, z0, z0)
theorem hdP_0 {b : Nat → Int32} {t : Nat} (h : (hdP b t).1 = 0) : hdP b t = (0, -1) ∧ (wF b t 0 0).1 = 0 ∧ (nF b t 0 99 (hd1 b t)).1 = 0 ∧ (wF b t 1 (hd2 b t)).1 = 0 ∧ (nF b t 0 1 (hd3 b t)).1 = 0 ∧ (sF b t 58 (hd4 b t)).1 = 0 := by
  have h1 := flF_z.mp h
  have h2 := flF_z.mp h1.1
  have h3 := flF_z.mp h2.1
  have h4 := flF_z.mp h3.1
  have h5 := flF_z.mp h4.1
  refine ⟨?_, h5.2, h4.2, h3.2, h2.2, h1.2⟩
  unfold hdP
  rw [flF_0 h1.2, flF_0 h2.2, flF_0 h3.2, flF_0 h4.2, flF_0 h5.2]
section CPAGE
variable {Z X : XT} {Y : YT} {QV : XT → YT → Prop} {t N B : Nat}
theorem s_parse (z : TZ Z t) (hN : N ≤ 10) (hn : Z 3 9 = nI N) (hs : ∀ j, ∃ v, v ≤ 12 ∧ Z 6 j = nI v) (hB : B ≤ 10)
    (hq : ∀ U, CR Z t (nI (nV (Z 2) t (hd1 (Z 2) t))) (nI (nV (Z 2) t (hd3 (Z 2) t))) (pgR Z t N B) U → QV U Y) : PX2_parse (nI B) Z Y QV := by
  intro I73 h73
  unfold BX2_parse_s
  intro X1 e1
  have c0 : CP Z t 0 (0, -1) (sX (sX X1 24 11 (nI B)) 24 12 0) := by
    rw [e1]
    exact ⟨fun q a _ _ _ => by rw [sX_ne a, sX_ne a, sX_ne a, sX_ne a, sX_ne a, sX_ne a], rfl, by omega, rfl, rfl, by show 0 < 6; omega⟩
  refine s_word z c0 (n := 0) (by omega) (fun U1 c1 f1 => ?_)
  refine s_num (lo := 0) (hi := 99) z c1 (by omega) (by omega) (fun U2 c2 f2 => ?_)
  have c2' := c2.oth (U := sX U2 24 8 (nI (nV (Z 2) t (wE (Z 2) t 0)))) (fun q a _ _ _ => sX_ne a) (by rw [sX_eq, pk_un (by decide)]) (by rw [sX_eq, pk_un (by decide)]) (by rw [sX_eq, pk_un (by decide)])
  refine s_word z c2' (n := 1) (by omega) (fun U3 c3 f3 => ?_)
  refine s_num (lo := 0) (hi := 1) z c3 (by omega) (by omega) (fun U4 c4 f4 => ?_)
  have c4' := c4.oth (U := sX U4 24 9 (nI (nV (Z 2) t (wE (Z 2) t (nE (Z 2) t (wE (Z 2) t 0)))))) (fun q a _ _ _ => sX_ne a) (by rw [sX_eq, pk_un (by decide)]) (by rw [sX_eq, pk_un (by decide)]) (by rw [sX_eq, pk_un (by decide)])
  refine s_sign z c4' (by decide) (fun U5 c5 f5 => ?_)
  have c5 : CP Z t (hd5 (Z 2) t) (hdP (Z 2) t) U5 := c5
  by_cases g : (hdP (Z 2) t).1 = 0
  · have ep : pgR Z t N B = _ := if_pos g
    rw [(hdP_0 g).1] at c5
    refine s_loop z hN hn hs h73 5 _ 0 B z0 z0 z0 U5 rfl (by omega) hB c5 ⟨?_, ?_, ?_, ?_, ⟨0, by omega, ?_, fun n _ => ?_⟩, fun k' hk' => absurd hk' (by omega)⟩ (fun U cr => hq U (by rw [ep]; exact cr))
    · rw [f5.2 8 (by decide) (by decide) (by decide), sX_eq, pk_un (by decide), f4.2 8 (by decide) (by decide) (by decide), f3.2 8 (by decide) (by decide) (by decide), sX_eq, pk_us]
      rfl
    · rw [f5.2 9 (by decide) (by decide) (by decide), sX_eq, pk_us]
      rfl
    · rw [f5.2 10 (by decide) (by decide) (by decide), sX_eq, pk_un (by decide), f4.2 10 (by decide) (by decide) (by decide), f3.2 10 (by decide) (by decide) (by decide), sX_eq, pk_un (by decide), f2.2 10 (by decide) (by decide) (by decide), f1.2 10 (by decide) (by decide) (by decide), e1]
      rfl
    · rw [f5.2 11 (by decide) (by decide) (by decide), sX_eq, pk_un (by decide), f4.2 11 (by decide) (by decide) (by decide), f3.2 11 (by decide) (by decide) (by decide), sX_eq, pk_un (by decide), f2.2 11 (by decide) (by decide) (by decide), f1.2 11 (by decide) (by decide) (by decide), e1]
      rfl
    · rw [f5.2 12 (by decide) (by decide) (by decide), sX_eq, pk_un (by decide), f4.2 12 (by decide) (by decide) (by decide), f3.2 12 (by decide) (by decide) (by decide), sX_eq, pk_un (by decide), f2.2 12 (by decide) (by decide) (by decide), f1.2 12 (by decide) (by decide) (by decide), e1]
      rfl
    · rw [Nat.zero_testBit]
      exact ⟨fun y => (by cases y), fun ⟨k', h, _⟩ => absurd h (by omega)⟩
  · have ep : pgR Z t N B = _ := if_neg g
    have hu := hq U5 (by rw [ep]; exact ⟨⟨_, c5⟩, fun y => absurd y g⟩)
    apply h73
    unfold BX2_parse_73
    have e0 : (nI (hdP (Z 2) t).1 = 0) = ((hdP (Z 2) t).1 = 0) := eq_nI (b := 0) (by have := c5.2.2.2.2.2; omega) (by omega)
    rw [c5.2.2.2.1, e0]
    exact ⟨fun _ => hu, fun _ => ⟨fun _ => hu, fun _ => ⟨fun _ => hu, fun y => absurd y g⟩⟩⟩
end CPAGE
