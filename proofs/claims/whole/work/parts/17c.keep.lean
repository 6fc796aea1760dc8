/-! what an order being read leaves alone: the orders before it -/
def zok (W : List Nat) (O : List (Nat × Nat)) : Bool := W.all (fun k => !([79, 108, 109, 110, 111, 112, 113, 114, 115, 116, 117, 118].contains k)) && O.all (fun q => !([108, 109, 110, 111, 112, 113, 114, 115, 116, 117, 118].contains q.1) && !([(79, 35), (79, 36)].contains q))
def ZI (o : Nat) (M : v_M) : Prop := o < 12 ∧ M.1 79 35 = nI o ∧ ∃ e, e ≤ 3600 ∧ M.1 79 36 = nI e
def Z (o : Nat) (M M' : v_M) : Prop := ZI o M → (ZI o M' ∧ (∀ i, i < 300 * o → M'.1 108 i = M.1 108 i ∧ M'.1 109 i = M.1 109 i) ∧ ∀ k i, 110 ≤ k → k ≤ 118 → i < 12 * o → M'.1 k i = M.1 k i)
theorem Z.R {o : Nat} {M : v_M} : Z o M M := fun h => ⟨h, fun _ _ => ⟨rfl, rfl⟩, fun _ _ _ _ _ => rfl⟩
theorem Z.T {o : Nat} {A B C : v_M} (h : Z o A B) (k : Z o B C) : Z o A C := by
  intro hA
  obtain ⟨h1, h2, h3⟩ := h hA
  obtain ⟨k1, k2, k3⟩ := k h1
  exact ⟨k1, fun i hi => ⟨(k2 i hi).1.trans (h2 i hi).1, (k2 i hi).2.trans (h2 i hi).2⟩, fun a i a1 a2 hi => (k3 a i a1 a2 hi).trans (h3 a i a1 a2 hi)⟩
theorem Z.of {o : Nat} {W : List Nat} {O : List (Nat × Nat)} {A B : v_M} (hz : zok W O = true) (f : v_fr W O A B) : Z o A B := by
  unfold zok at hz
  rw [Bool.and_eq_true, List.all_eq_true, List.all_eq_true] at hz
  obtain ⟨hW, hO⟩ := hz
  have nW : ∀ k, [79, 108, 109, 110, 111, 112, 113, 114, 115, 116, 117, 118].contains k = true → k ∉ W := by
    intro k hk hm
    have := hW k hm
    rw [hk] at this
    cases this
  have nO : ∀ k j, [108, 109, 110, 111, 112, 113, 114, 115, 116, 117, 118].contains k = true → (k, j) ∉ O := by
    intro k j hk hm
    have := hO (k, j) hm
    rw [Bool.and_eq_true] at this
    have t := this.1
    dsimp only at t
    rw [hk] at t
    cases t
  have nP : ∀ k j, [(79, 35), (79, 36)].contains (k, j) = true → (k, j) ∉ O := by
    intro k j hk hm
    have := hO (k, j) hm
    rw [Bool.and_eq_true] at this
    have t := this.2
    rw [hk] at t
    cases t
  intro hA
  obtain ⟨h1, h2, e, h3, h4⟩ := hA
  refine ⟨⟨h1, by rw [f.1 79 35 (nW 79 rfl) (nP 79 35 rfl), h2], e, h3, by rw [f.1 79 36 (nW 79 rfl) (nP 79 36 rfl), h4]⟩, fun i _ => ⟨f.1 108 i (nW 108 rfl) (nO 108 i rfl), f.1 109 i (nW 109 rfl) (nO 109 i rfl)⟩, fun k i k1 k2 _ => ?_⟩
  have : k = 110 ∨ k = 111 ∨ k = 112 ∨ k = 113 ∨ k = 114 ∨ k = 115 ∨ k = 116 ∨ k = 117 ∨ k = 118 := by omega
  rcases this with rfl | rfl | rfl | rfl | rfl | rfl | rfl | rfl | rfl
  · exact f.1 110 i (nW _ rfl) (nO _ i rfl)
  · exact f.1 111 i (nW _ rfl) (nO _ i rfl)
  · exact f.1 112 i (nW _ rfl) (nO _ i rfl)
  · exact f.1 113 i (nW _ rfl) (nO _ i rfl)
  · exact f.1 114 i (nW _ rfl) (nO _ i rfl)
  · exact f.1 115 i (nW _ rfl) (nO _ i rfl)
  · exact f.1 116 i (nW _ rfl) (nO _ i rfl)
  · exact f.1 117 i (nW _ rfl) (nO _ i rfl)
  · exact f.1 118 i (nW _ rfl) (nO _ i rfl)
theorem Z.wo {o : Nat} {A B : v_M} {k i : Nat} {v : Int32} (hz : zok [] [(k, i)] = true) (h : Z o A B) : Z o A (v_wr B k i v) := Z.T h (Z.of hz (v_fro (by simp) v_frR))
theorem Z.ww {o : Nat} {A B : v_M} {k i : Nat} {v : Int32} (hz : zok [k] [] = true) (h : Z o A B) : Z o A (v_wr B k i v) := Z.T h (Z.of hz (v_frw (by simp) v_frR))
theorem Z.c {o : Nat} {A B : v_M} {k i : Nat} {v : Int32} (hx : 12 * o ≤ i) (h1 : 113 ≤ k) (h2 : k ≤ 118) (h : Z o A B) : Z o A (v_wr B k i v) := by
  refine Z.T h (fun hB => ?_)
  obtain ⟨b1, b2, e, b3, b4⟩ := hB
  refine ⟨⟨b1, by rw [v_rdn (by omega), b2], e, b3, by rw [v_rdn (by omega), b4]⟩, fun j _ => ⟨by rw [v_rdn (by omega)], by rw [v_rdn (by omega)]⟩, fun a j _ _ hj => by rw [v_rd, if_neg (by omega)]⟩
theorem zr_X12_entry {o N : Nat} {x1 : Int32} {x2 : Int32} {M : v_M} {out : Int32 × v_M} (h : f_X12_entry N x1 x2 M = some out) : Z o M out.2 := by
  intro hM
  obtain ⟨b1, b2, e, b3, b4⟩ := hM
  unfold f_X12_entry at h
  rcases v_iteS h with ⟨c, h⟩ | ⟨c, h⟩
  · rw [b2, b4] at h
    have ix : (300 : Int32) * nI o + nI e = nI (300 * o + e) := by rw [show (300 : Int32) = nI 300 from rfl, nI_mul, nI_add]
    rw [ix, nI_clamp (show 300 * o + e < 2 ^ 31 by omega)] at h
    obtain ⟨hb, h⟩ := v_ckS h
    have ce : e < 3600 := by
      have w := hb
      simp only [v_ib, Bool.and_eq_true, decide_eq_true_eq] at w
      have w2 := w.2
      rw [nI_clamp (show 300 * o + e < 2 ^ 31 by omega)] at w2
      omega
    obtain ⟨M1, eM1, h⟩ := v_ltM h
    have g1 : M1.1 79 35 = nI o ∧ M1.1 79 36 = nI e := by rw [eM1, v_rdn (by decide), v_rdn (by decide)]; exact ⟨b2, b4⟩
    rw [g1.1, g1.2, ix, nI_clamp (show 300 * o + e < 2 ^ 31 by omega)] at h
    obtain ⟨hb', h⟩ := v_ckS h
    obtain ⟨M2, eM2, h⟩ := v_ltM h
    have g2 : M2.1 79 35 = nI o ∧ M2.1 79 36 = nI e := by rw [eM2, v_rdn (by decide), v_rdn (by decide)]; exact g1
    rw [g2.2] at h
    obtain ⟨M3, eM3, h⟩ := v_ltM h
    have h := Option.some.inj h
    subst h
    dsimp only
    rw [eM3]
    refine ⟨⟨b1, by rw [v_rd, if_neg (by omega), g2.1], e + 1, by omega, by rw [v_rdS]; exact nI_1 _⟩, fun i hi => ⟨?_, ?_⟩, fun k i k1 k2 hi => ?_⟩
    · rw [v_rdn (by decide), eM2, v_rdn (by decide), eM1, v_rd, if_neg (by omega)]
    · rw [v_rdn (by decide), eM2, v_rd, if_neg (by omega), eM1, v_rdn (by decide)]
    · rw [v_rdn (by omega), eM2, v_rdn (by omega), eM1, v_rdn (by omega)]
  · have h := Option.some.inj h
    subst h
    exact ⟨⟨b1, b2, e, b3, b4⟩, fun _ _ => ⟨rfl, rfl⟩, fun _ _ _ _ _ => rfl⟩
theorem zw_X12_value_L61 {o N : Nat} {x1 : Int32} {x2 : Int32} {M : v_M} {out : Int32 × v_M} (h : f_X12_value_L61 N x1 x2 M = some out) : Z o M out.2 := by
  have fM : Z o M M := Z.R
  unfold f_X12_value_L61 at h
  rcases v_iteS h with ⟨c, h⟩ | ⟨c, h⟩
  · obtain ⟨z6, hz6, h⟩ := v_bdS h
    have fz6 : Z o M z6.2 := Z.T fM (Z.of (by decide) <| fr_X12_fails hz6)
    have h := Option.some.inj h
    subst h
    exact fz6
  · obtain ⟨z1, hz1, h⟩ := v_bdS h
    have fz1 : Z o M z1.2 := Z.T fM (Z.of (by decide) <| fr_X12_isCounted hz1)
    obtain ⟨z2, hz2, h⟩ := v_bdS h
    have fz2 : Z o M z2.2 := Z.T fz1 (Z.of (by decide) <| fr_X12_wordOf hz2)
    obtain ⟨z3, hz3, h⟩ := v_bdS h
    have fz3 : Z o M z3.2 := Z.T fz2 (Z.of (by decide) <| fr_J0_length_8abf5 hz3)
    obtain ⟨M4, eM4, h⟩ := v_ltM h
    have fM4 : Z o M M4 := by rw [eM4]; exact Z.wo (by decide) fz3
    obtain ⟨z5, hz5, h⟩ := v_bdS h
    have fz5 : Z o M z5.2 := Z.T fM4 (zr_X12_entry hz5)
    have h := Option.some.inj h
    subst h
    exact fz5
theorem zv_X12_value_L38 {o N : Nat} {out : Int32 × v_M} (n : Nat) : ∀ (x1 : Int32) (x2 : Int32) (M : v_M), f_X12_value_L38 N n x1 x2 M = some out → Z o M out.2 := by
  induction n with
  | zero => intro x1 x2 M h; rw [f_X12_value_L38] at h; cases h
  | succ n ih =>
    intro x1 x2 M h
    have fM : Z o M M := Z.R
    rw [f_X12_value_L38] at h
    rcases v_iteS h with ⟨c, h⟩ | ⟨c, h⟩
    · exact Z.T fM (zw_X12_value_L61 h)
    · obtain ⟨z1, hz1, h⟩ := v_bdS h
      have fz1 : Z o M z1.2 := Z.T fM (Z.of (by decide) <| fr_X12_wordOf hz1)
      obtain ⟨z2, hz2, h⟩ := v_bdS h
      have fz2 : Z o M z2.2 := Z.T fz1 (Z.of (by decide) <| fr_X12_stands hz2)
      rcases v_iteS h with ⟨c, h⟩ | ⟨c, h⟩
      · exact Z.T fz2 (ih _ _ _ h)
      · exact Z.T fz2 (zw_X12_value_L61 h)
theorem zw_X12_value_L38 {o N n : Nat} {x1 : Int32} {x2 : Int32} {M : v_M} {out : Int32 × v_M} (h : f_X12_value_L38 N n x1 x2 M = some out) : Z o M out.2 := zv_X12_value_L38 n x1 x2 M h
theorem zr_X12_value {o N : Nat} {M : v_M} {out : Int32 × v_M} (h : f_X12_value N M = some out) : Z o M out.2 := by
  have fM : Z o M M := Z.R
  unfold f_X12_value at h
  obtain ⟨z1, hz1, h⟩ := v_bdS h
  have fz1 : Z o M z1.2 := Z.T fM (Z.of (by decide) <| fr_X12_blanks hz1)
  obtain ⟨y2, ey2, h⟩ := v_ltM h
  obtain ⟨z3, hz3, h⟩ := v_bdS h
  have fz3 : Z o M z3.2 := Z.T fz1 (Z.of (by decide) <| fr_X12_isDigit hz3)
  rcases v_iteS h with ⟨c, h⟩ | ⟨c, h⟩
  · exact Z.T fz3 (zw_X12_value_L38 h)
  · obtain ⟨z4, hz4, h⟩ := v_bdS h
    have fz4 : Z o M z4.2 := Z.T fz3 (Z.of (by decide) <| fr_X12_digits hz4)
    obtain ⟨y5, ey5, h⟩ := v_ltM h
    obtain ⟨z6, hz6, h⟩ := v_bdS h
    have fz6 : Z o M z6.2 := Z.T fz4 (Z.of (by decide) <| fr_X12_isCounted hz6)
    obtain ⟨z7, hz7, h⟩ := v_bdS h
    have fz7 : Z o M z7.2 := Z.T fz6 (zr_X12_entry hz7)
    have h := Option.some.inj h
    subst h
    exact fz7
theorem zw_X12_sum_L47 {o N : Nat} {t0 : Int32} {M : v_M} {out : Int32 × v_M} {k8 : v_M → Option (Int32 × v_M)} (hk8 : ∀ (M : v_M), k8 M = some out → Z o M out.2) (h : f_X12_sum_L47 N k8 t0 M = some out) : Z o M out.2 := by
  have fM : Z o M M := Z.R
  unfold f_X12_sum_L47 at h
  obtain ⟨M1, eM1, h⟩ := v_ltM h
  have fM1 : Z o M M1 := by rw [eM1]; exact Z.wo (by decide) fM
  obtain ⟨z2, hz2, h⟩ := v_bdS h
  have fz2 : Z o M z2.2 := Z.T fM1 (zr_X12_value hz2)
  obtain ⟨z3, hz3, h⟩ := v_bdS h
  have fz3 : Z o M z3.2 := Z.T fz2 (zr_X12_entry hz3)
  obtain ⟨z4, hz4, h⟩ := v_bdS h
  have fz4 : Z o M z4.2 := Z.T fz3 (Z.of (by decide) <| fr_X12_blanks hz4)
  exact Z.T fz4 (hk8  _ h)
theorem zw_X12_sum_L33 {o N : Nat} {M : v_M} {out : Int32 × v_M} {k8 : v_M → Option (Int32 × v_M)} (hk8 : ∀ (M : v_M), k8 M = some out → Z o M out.2) (h : f_X12_sum_L33 N k8 M = some out) : Z o M out.2 := by
  have fM : Z o M M := Z.R
  unfold f_X12_sum_L33 at h
  obtain ⟨z1, hz1, h⟩ := v_bdS h
  have fz1 : Z o M z1.2 := Z.T fM (Z.of (by decide) <| fr_X12_sign hz1)
  rcases v_iteS h with ⟨c, h⟩ | ⟨c, h⟩
  · exact Z.T fz1 (zw_X12_sum_L47 hk8 h)
  · exact Z.T fz1 (zw_X12_sum_L47 hk8 h)
theorem zv_X12_sum_L8 {o N : Nat} {out : Int32 × v_M} (n : Nat) : ∀ (M : v_M), f_X12_sum_L8 N n M = some out → Z o M out.2 := by
  induction n with
  | zero => intro M h; rw [f_X12_sum_L8] at h; cases h
  | succ n ih =>
    intro M h
    have fM : Z o M M := Z.R
    rw [f_X12_sum_L8] at h
    rcases v_iteS h with ⟨c, h⟩ | ⟨c, h⟩
    · obtain ⟨z1, hz1, h⟩ := v_bdS h
      have fz1 : Z o M z1.2 := Z.T fM (Z.of (by decide) <| fr_X12_sign hz1)
      rcases v_iteS h with ⟨c, h⟩ | ⟨c, h⟩
      · exact Z.T fz1 (zw_X12_sum_L33 ih h)
      · obtain ⟨z2, hz2, h⟩ := v_bdS h
        have fz2 : Z o M z2.2 := Z.T fz1 (Z.of (by decide) <| fr_X12_sign hz2)
        rcases v_iteS h with ⟨c, h⟩ | ⟨c, h⟩
        · exact Z.T fz2 (zw_X12_sum_L33 ih h)
        · have h := Option.some.inj h
          subst h
          exact fz2
    · have h := Option.some.inj h
      subst h
      exact fM
theorem zw_X12_sum_L8 {o N n : Nat} {M : v_M} {out : Int32 × v_M} (h : f_X12_sum_L8 N n M = some out) : Z o M out.2 := zv_X12_sum_L8 n M h
theorem zr_X12_sum {o N : Nat} {M : v_M} {out : Int32 × v_M} (h : f_X12_sum N M = some out) : Z o M out.2 := by
  have fM : Z o M M := Z.R
  unfold f_X12_sum at h
  obtain ⟨z1, hz1, h⟩ := v_bdS h
  have fz1 : Z o M z1.2 := Z.T fM (zr_X12_value hz1)
  obtain ⟨z2, hz2, h⟩ := v_bdS h
  have fz2 : Z o M z2.2 := Z.T fz1 (Z.of (by decide) <| fr_X12_blanks hz2)
  exact Z.T fz2 (zw_X12_sum_L8 h)
theorem zw_X12_compared_L90 {o N : Nat} {x1 : Int32} {x2 : Int32} {t0 : Int32} {t1 : Int32} {M : v_M} {out : Int32 × v_M} (h : f_X12_compared_L90 N x1 x2 t0 t1 M = some out) : Z o M out.2 := by
  have fM : Z o M M := Z.R
  unfold f_X12_compared_L90 at h
  obtain ⟨M1, eM1, h⟩ := v_ltM h
  have fM1 : Z o M M1 := by rw [eM1]; exact Z.wo (by decide) fM
  obtain ⟨z2, hz2, h⟩ := v_bdS h
  have fz2 : Z o M z2.2 := Z.T fM1 (zr_X12_sum hz2)
  rcases v_iteS h with ⟨c, h⟩ | ⟨c, h⟩
  · obtain ⟨z7, hz7, h⟩ := v_bdS h
    have fz7 : Z o M z7.2 := Z.T fz2 (zr_X12_entry hz7)
    have h := Option.some.inj h
    subst h
    exact fz7
  · rcases v_iteS h with ⟨c, h⟩ | ⟨c, h⟩
    · rcases v_iteS h with ⟨c, h⟩ | ⟨c, h⟩
      · obtain ⟨z5, hz5, h⟩ := v_bdS h
        have fz5 : Z o M z5.2 := Z.T fz2 (zr_X12_entry hz5)
        have h := Option.some.inj h
        subst h
        exact fz5
      · obtain ⟨z6, hz6, h⟩ := v_bdS h
        have fz6 : Z o M z6.2 := Z.T fz2 (zr_X12_entry hz6)
        have h := Option.some.inj h
        subst h
        exact fz6
    · rcases v_iteS h with ⟨c, h⟩ | ⟨c, h⟩
      · obtain ⟨z3, hz3, h⟩ := v_bdS h
        have fz3 : Z o M z3.2 := Z.T fz2 (zr_X12_entry hz3)
        have h := Option.some.inj h
        subst h
        exact fz3
      · obtain ⟨z4, hz4, h⟩ := v_bdS h
        have fz4 : Z o M z4.2 := Z.T fz2 (zr_X12_entry hz4)
        have h := Option.some.inj h
        subst h
        exact fz4
theorem zw_X12_compared_L75 {o N : Nat} {x1 : Int32} {t0 : Int32} {M : v_M} {out : Int32 × v_M} (h : f_X12_compared_L75 N x1 t0 M = some out) : Z o M out.2 := by
  have fM : Z o M M := Z.R
  unfold f_X12_compared_L75 at h
  rcases v_iteS h with ⟨c, h⟩ | ⟨c, h⟩
  · exact Z.T fM (zw_X12_compared_L90 h)
  · exact Z.T fM (zw_X12_compared_L90 h)
theorem zw_X12_compared_L74 {o N : Nat} {x1 : Int32} {M : v_M} {out : Int32 × v_M} (h : f_X12_compared_L74 N x1 M = some out) : Z o M out.2 := by
  have fM : Z o M M := Z.R
  unfold f_X12_compared_L74 at h
  exact Z.T fM (zw_X12_compared_L75 h)
theorem zw_X12_compared_L37 {o N : Nat} {x1 : Int32} {M : v_M} {out : Int32 × v_M} (h : f_X12_compared_L37 N x1 M = some out) : Z o M out.2 := by
  have fM : Z o M M := Z.R
  unfold f_X12_compared_L37 at h
  obtain ⟨z1, hz1, h⟩ := v_bdS h
  have fz1 : Z o M z1.2 := Z.T fM (Z.of (by decide) <| fr_X12_isCounted hz1)
  obtain ⟨M2, eM2, h⟩ := v_ltM h
  have fM2 : Z o M M2 := by rw [eM2]; exact Z.wo (by decide) fz1
  rcases v_iteS h with ⟨c, h⟩ | ⟨c, h⟩
  · exact Z.T fM2 (zw_X12_compared_L74 h)
  · obtain ⟨z3, hz3, h⟩ := v_bdS h
    have fz3 : Z o M z3.2 := Z.T fM2 (Z.of (by decide) <| fr_X12_sign hz3)
    rcases v_iteS h with ⟨c, h⟩ | ⟨c, h⟩
    · exact Z.T fz3 (zw_X12_compared_L75 h)
    · exact Z.T fz3 (zw_X12_compared_L74 h)
theorem zr_X12_compared {o N : Nat} {M : v_M} {out : Int32 × v_M} (h : f_X12_compared N M = some out) : Z o M out.2 := by
  have fM : Z o M M := Z.R
  unfold f_X12_compared at h
  obtain ⟨z1, hz1, h⟩ := v_bdS h
  have fz1 : Z o M z1.2 := Z.T fM (zr_X12_sum hz1)
  obtain ⟨z2, hz2, h⟩ := v_bdS h
  have fz2 : Z o M z2.2 := Z.T fz1 (Z.of (by decide) <| fr_X12_sign hz2)
  obtain ⟨y3, ey3, h⟩ := v_ltM h
  rcases v_iteS h with ⟨c, h⟩ | ⟨c, h⟩
  · exact Z.T fz2 (zw_X12_compared_L37 h)
  · rcases v_iteS h with ⟨c, h⟩ | ⟨c, h⟩
    · exact Z.T fz2 (zw_X12_compared_L37 h)
    · rcases v_iteS h with ⟨c, h⟩ | ⟨c, h⟩
      · exact Z.T fz2 (zw_X12_compared_L37 h)
      · obtain ⟨z4, hz4, h⟩ := v_bdS h
        have fz4 : Z o M z4.2 := Z.T fz2 (Z.of (by decide) <| fr_X12_fails hz4)
        have h := Option.some.inj h
        subst h
        exact fz4
theorem zw_X12_answers_L47 {o N : Nat} {x1 : Int32} {t0 : Int32} {t1 : Int32} {M : v_M} {out : Int32 × v_M} {k0 : Int32 → v_M → Option (Int32 × v_M)} (hk0 : ∀ (x1 : Int32) (M : v_M), k0 x1 M = some out → Z o M out.2) (h : f_X12_answers_L47 N k0 x1 t0 t1 M = some out) : Z o M out.2 := by
  have fM : Z o M M := Z.R
  unfold f_X12_answers_L47 at h
  obtain ⟨M1, eM1, h⟩ := v_ltM h
  have fM1 : Z o M M1 := by rw [eM1]; exact Z.wo (by decide) fM
  exact Z.T fM1 (hk0 _ _ h)
theorem zv_X12_answers_L0 {o N : Nat} {out : Int32 × v_M} (n : Nat) : ∀ (x1 : Int32) (M : v_M), f_X12_answers_L0 N n x1 M = some out → Z o M out.2 := by
  induction n with
  | zero => intro x1 M h; rw [f_X12_answers_L0] at h; cases h
  | succ n ih =>
    intro x1 M h
    have fM : Z o M M := Z.R
    rw [f_X12_answers_L0] at h
    obtain ⟨z1, hz1, h⟩ := v_bdS h
    have fz1 : Z o M z1.2 := Z.T fM (Z.of (by decide) <| fr_X12_top hz1)
    rcases v_iteS h with ⟨c, h⟩ | ⟨c, h⟩
    · rcases v_iteS h with ⟨c, h⟩ | ⟨c, h⟩
      · obtain ⟨z2, hz2, h⟩ := v_bdS h
        have fz2 : Z o M z2.2 := Z.T fz1 (zr_X12_entry hz2)
        obtain ⟨M3, eM3, h⟩ := v_ltM h
        have fM3 : Z o M M3 := by rw [eM3]; exact Z.wo (by decide) fz2
        rcases v_iteS h with ⟨c, h⟩ | ⟨c, h⟩
        · exact Z.T fM3 (zw_X12_answers_L47 ih h)
        · exact Z.T fM3 (zw_X12_answers_L47 ih h)
      · have h := Option.some.inj h
        subst h
        exact fz1
    · have h := Option.some.inj h
      subst h
      exact fz1
theorem zw_X12_answers_L0 {o N n : Nat} {x1 : Int32} {M : v_M} {out : Int32 × v_M} (h : f_X12_answers_L0 N n x1 M = some out) : Z o M out.2 := zv_X12_answers_L0 n x1 M h
theorem zr_X12_answers {o N : Nat} {x1 : Int32} {M : v_M} {out : Int32 × v_M} (h : f_X12_answers N x1 M = some out) : Z o M out.2 := by
  have fM : Z o M M := Z.R
  unfold f_X12_answers at h
  exact Z.T fM (zw_X12_answers_L0 h)
theorem zr_X12_fact {o N : Nat} {M : v_M} {out : Int32 × v_M} (h : f_X12_fact N M = some out) : Z o M out.2 := by
  have fM : Z o M M := Z.R
  unfold f_X12_fact at h
  obtain ⟨z1, hz1, h⟩ := v_bdS h
  have fz1 : Z o M z1.2 := Z.T fM (Z.of (by decide) <| fr_X12_blanks hz1)
  obtain ⟨z2, hz2, h⟩ := v_bdS h
  have fz2 : Z o M z2.2 := Z.T fz1 (Z.of (by decide) <| fr_X12_stands hz2)
  rcases v_iteS h with ⟨c, h⟩ | ⟨c, h⟩
  · obtain ⟨z3, hz3, h⟩ := v_bdS h
    have fz3 : Z o M z3.2 := Z.T fz2 (Z.of (by decide) <| fr_X12_sign hz3)
    rcases v_iteS h with ⟨c, h⟩ | ⟨c, h⟩
    · obtain ⟨z5, hz5, h⟩ := v_bdS h
      have fz5 : Z o M z5.2 := Z.T fz3 (Z.of (by decide) <| fr_X12_opens hz5)
      obtain ⟨M6, eM6, h⟩ := v_ltM h
      have fM6 : Z o M M6 := by rw [eM6]; exact Z.wo (by decide) fz5
      obtain ⟨hb, h⟩ := v_ckS h
      have h := Option.some.inj h
      subst h
      exact fM6
    · obtain ⟨z4, hz4, h⟩ := v_bdS h
      have fz4 : Z o M z4.2 := Z.T fz3 (zr_X12_compared hz4)
      obtain ⟨hb, h⟩ := v_ckS h
      have h := Option.some.inj h
      subst h
      exact fz4
  · obtain ⟨z7, hz7, h⟩ := v_bdS h
    have fz7 : Z o M z7.2 := Z.T fz2 (Z.of (by decide) <| fr_X12_opens hz7)
    obtain ⟨M8, eM8, h⟩ := v_ltM h
    have fM8 : Z o M M8 := by rw [eM8]; exact Z.wo (by decide) fz7
    obtain ⟨hb, h⟩ := v_ckS h
    have h := Option.some.inj h
    subst h
    exact fM8
theorem zw_X12_test_L199 {o N : Nat} {x1 : Int32} {x2 : Int32} {M : v_M} {out : Int32 × v_M} {k9 : Int32 → Int32 → v_M → Option (Int32 × v_M)} (hk9 : ∀ (x1 : Int32) (x2 : Int32) (M : v_M), k9 x1 x2 M = some out → Z o M out.2) (h : f_X12_test_L199 N k9 x1 x2 M = some out) : Z o M out.2 := by
  have fM : Z o M M := Z.R
  unfold f_X12_test_L199 at h
  exact Z.T fM (hk9 _ _ _ h)
theorem zw_X12_test_L164 {o N : Nat} {x1 : Int32} {x2 : Int32} {M : v_M} {out : Int32 × v_M} {k9 : Int32 → Int32 → v_M → Option (Int32 × v_M)} (hk9 : ∀ (x1 : Int32) (x2 : Int32) (M : v_M), k9 x1 x2 M = some out → Z o M out.2) (h : f_X12_test_L164 N k9 x1 x2 M = some out) : Z o M out.2 := by
  have fM : Z o M M := Z.R
  unfold f_X12_test_L164 at h
  obtain ⟨M1, eM1, h⟩ := v_ltM h
  have fM1 : Z o M M1 := by rw [eM1]; exact Z.wo (by decide) fM
  obtain ⟨M2, eM2, h⟩ := v_ltM h
  have fM2 : Z o M M2 := by rw [eM2]; exact Z.wo (by decide) fM1
  obtain ⟨M3, eM3, h⟩ := v_ltM h
  have fM3 : Z o M M3 := by rw [eM3]; exact Z.wo (by decide) fM2
  exact Z.T fM3 (zw_X12_test_L199 hk9 h)
theorem zw_X12_test_L122 {o N : Nat} {x2 : Int32} {t0 : Int32} {t1 : Int32} {M : v_M} {out : Int32 × v_M} {k9 : Int32 → Int32 → v_M → Option (Int32 × v_M)} (hk9 : ∀ (x1 : Int32) (x2 : Int32) (M : v_M), k9 x1 x2 M = some out → Z o M out.2) (h : f_X12_test_L122 N k9 x2 t0 t1 M = some out) : Z o M out.2 := by
  have fM : Z o M M := Z.R
  unfold f_X12_test_L122 at h
  obtain ⟨M1, eM1, h⟩ := v_ltM h
  have fM1 : Z o M M1 := by rw [eM1]; exact Z.wo (by decide) fM
  exact Z.T fM1 (zw_X12_test_L199 hk9 h)
theorem zw_X12_test_L105 {o N : Nat} {x2 : Int32} {x3 : Int32} {t0 : Int32} {M : v_M} {out : Int32 × v_M} {k9 : Int32 → Int32 → v_M → Option (Int32 × v_M)} (hk9 : ∀ (x1 : Int32) (x2 : Int32) (M : v_M), k9 x1 x2 M = some out → Z o M out.2) (h : f_X12_test_L105 N k9 x2 x3 t0 M = some out) : Z o M out.2 := by
  have fM : Z o M M := Z.R
  unfold f_X12_test_L105 at h
  obtain ⟨z1, hz1, h⟩ := v_bdS h
  have fz1 : Z o M z1.2 := Z.T fM (Z.of (by decide) <| fr_X12_opens hz1)
  rcases v_iteS h with ⟨c, h⟩ | ⟨c, h⟩
  · exact Z.T fz1 (zw_X12_test_L122 hk9 h)
  · exact Z.T fz1 (zw_X12_test_L122 hk9 h)
theorem zw_X12_test_L93 {o N : Nat} {x2 : Int32} {x3 : Int32} {M : v_M} {out : Int32 × v_M} {k9 : Int32 → Int32 → v_M → Option (Int32 × v_M)} (hk9 : ∀ (x1 : Int32) (x2 : Int32) (M : v_M), k9 x1 x2 M = some out → Z o M out.2) (h : f_X12_test_L93 N k9 x2 x3 M = some out) : Z o M out.2 := by
  have fM : Z o M M := Z.R
  unfold f_X12_test_L93 at h
  rcases v_iteS h with ⟨c, h⟩ | ⟨c, h⟩
  · exact Z.T fM (zw_X12_test_L105 hk9 h)
  · exact Z.T fM (zw_X12_test_L105 hk9 h)
theorem zw_X12_test_L82 {o N : Nat} {x2 : Int32} {x3 : Int32} {x4 : Int32} {M : v_M} {out : Int32 × v_M} {k9 : Int32 → Int32 → v_M → Option (Int32 × v_M)} (hk9 : ∀ (x1 : Int32) (x2 : Int32) (M : v_M), k9 x1 x2 M = some out → Z o M out.2) (h : f_X12_test_L82 N k9 x2 x3 x4 M = some out) : Z o M out.2 := by
  have fM : Z o M M := Z.R
  unfold f_X12_test_L82 at h
  rcases v_iteS h with ⟨c, h⟩ | ⟨c, h⟩
  · exact Z.T fM (zw_X12_test_L93 hk9 h)
  · obtain ⟨z1, hz1, h⟩ := v_bdS h
    have fz1 : Z o M z1.2 := Z.T fM (zr_X12_answers hz1)
    exact Z.T fz1 (zw_X12_test_L93 hk9 h)
theorem zw_X12_test_L36 {o N : Nat} {x2 : Int32} {t0 : Int32} {M : v_M} {out : Int32 × v_M} {k9 : Int32 → Int32 → v_M → Option (Int32 × v_M)} (hk9 : ∀ (x1 : Int32) (x2 : Int32) (M : v_M), k9 x1 x2 M = some out → Z o M out.2) (h : f_X12_test_L36 N k9 x2 t0 M = some out) : Z o M out.2 := by
  have fM : Z o M M := Z.R
  unfold f_X12_test_L36 at h
  exact Z.T fM (hk9 _ _ _ h)
theorem zv_X12_test_L9 {o N : Nat} {out : Int32 × v_M} (n : Nat) : ∀ (x1 : Int32) (x2 : Int32) (M : v_M), f_X12_test_L9 N n x1 x2 M = some out → Z o M out.2 := by
  induction n with
  | zero => intro x1 x2 M h; rw [f_X12_test_L9] at h; cases h
  | succ n ih =>
    intro x1 x2 M h
    have fM : Z o M M := Z.R
    rw [f_X12_test_L9] at h
    rcases v_iteS h with ⟨c, h⟩ | ⟨c, h⟩
    · have h := Option.some.inj h
      subst h
      exact fM
    · rcases v_iteS h with ⟨c, h⟩ | ⟨c, h⟩
      · rcases v_iteS h with ⟨c, h⟩ | ⟨c, h⟩
        · obtain ⟨z1, hz1, h⟩ := v_bdS h
          have fz1 : Z o M z1.2 := Z.T fM (zr_X12_answers hz1)
          obtain ⟨z2, hz2, h⟩ := v_bdS h
          have fz2 : Z o M z2.2 := Z.T fz1 (Z.of (by decide) <| fr_X12_blanks hz2)
          obtain ⟨z3, hz3, h⟩ := v_bdS h
          have fz3 : Z o M z3.2 := Z.T fz2 (Z.of (by decide) <| fr_X12_stands hz3)
          obtain ⟨y4, ey4, h⟩ := v_ltM h
          obtain ⟨z5, hz5, h⟩ := v_bdS h
          have fz5 : Z o M z5.2 := Z.T fz3 (Z.of (by decide) <| fr_X12_stands hz5)
          obtain ⟨y6, ey6, h⟩ := v_ltM h
          obtain ⟨z7, hz7, h⟩ := v_bdS h
          have fz7 : Z o M z7.2 := Z.T fz5 (zr_X12_answers hz7)
          rcases v_iteS h with ⟨c, h⟩ | ⟨c, h⟩
          · rcases v_iteS h with ⟨c, h⟩ | ⟨c, h⟩
            · obtain ⟨z8, hz8, h⟩ := v_bdS h
              have fz8 : Z o M z8.2 := Z.T fz7 (zr_X12_answers hz8)
              obtain ⟨z9, hz9, h⟩ := v_bdS h
              have fz9 : Z o M z9.2 := Z.T fz8 (Z.of (by decide) <| fr_X12_top hz9)
              rcases v_iteS h with ⟨c, h⟩ | ⟨c, h⟩
              · obtain ⟨z10, hz10, h⟩ := v_bdS h
                have fz10 : Z o M z10.2 := Z.T fz9 (Z.of (by decide) <| fr_X12_sign hz10)
                rcases v_iteS h with ⟨c, h⟩ | ⟨c, h⟩
                · exact Z.T fz10 (zw_X12_test_L164 ih h)
                · obtain ⟨z11, hz11, h⟩ := v_bdS h
                  have fz11 : Z o M z11.2 := Z.T fz10 (Z.of (by decide) <| fr_X12_fails hz11)
                  exact Z.T fz11 (zw_X12_test_L164 ih h)
              · exact Z.T fz9 (zw_X12_test_L199 ih h)
            · exact Z.T fz7 (zw_X12_test_L82 ih h)
          · exact Z.T fz7 (zw_X12_test_L82 ih h)
        · obtain ⟨z12, hz12, h⟩ := v_bdS h
          have fz12 : Z o M z12.2 := Z.T fM (zr_X12_fact hz12)
          rcases v_iteS h with ⟨c, h⟩ | ⟨c, h⟩
          · exact Z.T fz12 (zw_X12_test_L36 ih h)
          · exact Z.T fz12 (zw_X12_test_L36 ih h)
      · have h := Option.some.inj h
        subst h
        exact fM
theorem zw_X12_test_L9 {o N n : Nat} {x1 : Int32} {x2 : Int32} {M : v_M} {out : Int32 × v_M} (h : f_X12_test_L9 N n x1 x2 M = some out) : Z o M out.2 := zv_X12_test_L9 n x1 x2 M h
theorem zr_X12_test {o N : Nat} {M : v_M} {out : Int32 × v_M} (h : f_X12_test N M = some out) : Z o M out.2 := by
  have fM : Z o M M := Z.R
  unfold f_X12_test at h
  obtain ⟨M1, eM1, h⟩ := v_ltM h
  have fM1 : Z o M M1 := by rw [eM1]; exact Z.wo (by decide) fM
  exact Z.T fM1 (zw_X12_test_L9 h)
theorem zw_X12_clause_L309 {o N : Nat} {x4 : Int32} {M : v_M} {out : Int32 × v_M} (hx : 12 * o ≤ x4.toNatClampNeg) (h : f_X12_clause_L309 N x4 M = some out) : Z o M out.2 := by
  have fM : Z o M M := Z.R
  unfold f_X12_clause_L309 at h
  obtain ⟨hb, h⟩ := v_ckS h
  obtain ⟨M1, eM1, h⟩ := v_ltM h
  have fM1 : Z o M M1 := by rw [eM1]; exact Z.c hx (by decide) (by decide) fM
  have h := Option.some.inj h
  subst h
  exact fM1
theorem zw_X12_clause_L277 {o N : Nat} {x4 : Int32} {M : v_M} {out : Int32 × v_M} (hx : 12 * o ≤ x4.toNatClampNeg) (h : f_X12_clause_L277 N x4 M = some out) : Z o M out.2 := by
  have fM : Z o M M := Z.R
  unfold f_X12_clause_L277 at h
  obtain ⟨hb, h⟩ := v_ckS h
  obtain ⟨M1, eM1, h⟩ := v_ltM h
  have fM1 : Z o M M1 := by rw [eM1]; exact Z.c hx (by decide) (by decide) fM
  rcases v_iteS h with ⟨c, h⟩ | ⟨c, h⟩
  · obtain ⟨z2, hz2, h⟩ := v_bdS h
    have fz2 : Z o M z2.2 := Z.T fM1 (Z.of (by decide) <| fr_X12_takes_ hz2)
    rcases v_iteS h with ⟨c, h⟩ | ⟨c, h⟩
    · exact Z.T fz2 (zw_X12_clause_L309 hx h)
    · obtain ⟨z3, hz3, h⟩ := v_bdS h
      have fz3 : Z o M z3.2 := Z.T fz2 (zr_X12_test hz3)
      exact Z.T fz3 (zw_X12_clause_L309 hx h)
  · exact Z.T fM1 (zw_X12_clause_L309 hx h)
theorem zw_X12_clause_L231 {o N : Nat} {x4 : Int32} {x5 : Int32} {M : v_M} {out : Int32 × v_M} (hx : 12 * o ≤ x4.toNatClampNeg) (h : f_X12_clause_L231 N x4 x5 M = some out) : Z o M out.2 := by
  have fM : Z o M M := Z.R
  unfold f_X12_clause_L231 at h
  rcases v_iteS h with ⟨c, h⟩ | ⟨c, h⟩
  · obtain ⟨z5, hz5, h⟩ := v_bdS h
    have fz5 : Z o M z5.2 := Z.T fM (Z.of (by decide) <| fr_X12_fails hz5)
    exact Z.T fz5 (zw_X12_clause_L277 hx h)
  · obtain ⟨hb, h⟩ := v_ckS h
    obtain ⟨M1, eM1, h⟩ := v_ltM h
    have fM1 : Z o M M1 := by rw [eM1]; exact Z.c hx (by decide) (by decide) fM
    obtain ⟨z2, hz2, h⟩ := v_bdS h
    have fz2 : Z o M z2.2 := Z.T fM1 (Z.of (by decide) <| fr_X12_thingOf hz2)
    obtain ⟨z3, hz3, h⟩ := v_bdS h
    have fz3 : Z o M z3.2 := Z.T fz2 (Z.of (by decide) <| fr_J0_length_8abf5 hz3)
    obtain ⟨M4, eM4, h⟩ := v_ltM h
    have fM4 : Z o M M4 := by rw [eM4]; exact Z.wo (by decide) fz3
    exact Z.T fM4 (zw_X12_clause_L277 hx h)
theorem zv_X12_clause_L207 {o N : Nat} {out : Int32 × v_M} (n : Nat) : ∀ (x4 : Int32) (x5 : Int32) (M : v_M), 12 * o ≤ x4.toNatClampNeg → f_X12_clause_L207 N n x4 x5 M = some out → Z o M out.2 := by
  induction n with
  | zero => intro x4 x5 M hx h; rw [f_X12_clause_L207] at h; cases h
  | succ n ih =>
    intro x4 x5 M hx h
    have fM : Z o M M := Z.R
    rw [f_X12_clause_L207] at h
    rcases v_iteS h with ⟨c, h⟩ | ⟨c, h⟩
    · exact Z.T fM (zw_X12_clause_L231 hx h)
    · obtain ⟨z1, hz1, h⟩ := v_bdS h
      have fz1 : Z o M z1.2 := Z.T fM (Z.of (by decide) <| fr_X12_thingOf hz1)
      obtain ⟨z2, hz2, h⟩ := v_bdS h
      have fz2 : Z o M z2.2 := Z.T fz1 (Z.of (by decide) <| fr_X12_stands hz2)
      rcases v_iteS h with ⟨c, h⟩ | ⟨c, h⟩
      · exact Z.T fz2 (ih _ _ _ hx h)
      · exact Z.T fz2 (zw_X12_clause_L231 hx h)
theorem zw_X12_clause_L207 {o N n : Nat} {x4 : Int32} {x5 : Int32} {M : v_M} {out : Int32 × v_M} (hx : 12 * o ≤ x4.toNatClampNeg) (h : f_X12_clause_L207 N n x4 x5 M = some out) : Z o M out.2 := zv_X12_clause_L207 n x4 x5 M hx h
theorem zw_X12_clause_L183 {o N : Nat} {x4 : Int32} {t0 : Int32} {t1 : Int32} {M : v_M} {out : Int32 × v_M} (hx4 : 12 * o ≤ x4.toNatClampNeg) (hx : 12 * o ≤ t1.toNatClampNeg) (h : f_X12_clause_L183 N x4 t0 t1 M = some out) : Z o M out.2 := by
  have fM : Z o M M := Z.R
  unfold f_X12_clause_L183 at h
  obtain ⟨hb, h⟩ := v_ckS h
  obtain ⟨M1, eM1, h⟩ := v_ltM h
  have fM1 : Z o M M1 := by rw [eM1]; exact Z.c hx (by decide) (by decide) fM
  exact Z.T fM1 (zw_X12_clause_L277 hx4 h)
theorem zw_X12_clause_L155 {o N : Nat} {x4 : Int32} {M : v_M} {out : Int32 × v_M} (hx : 12 * o ≤ x4.toNatClampNeg) (h : f_X12_clause_L155 N x4 M = some out) : Z o M out.2 := by
  have fM : Z o M M := Z.R
  unfold f_X12_clause_L155 at h
  obtain ⟨z1, hz1, h⟩ := v_bdS h
  have fz1 : Z o M z1.2 := Z.T fM (Z.of (by decide) <| fr_X12_blanks hz1)
  rcases v_iteS h with ⟨c, h⟩ | ⟨c, h⟩
  · obtain ⟨z2, hz2, h⟩ := v_bdS h
    have fz2 : Z o M z2.2 := Z.T fz1 (Z.of (by decide) <| fr_X12_digits hz2)
    exact Z.T fz2 (zw_X12_clause_L183 hx hx h)
  · exact Z.T fz1 (zw_X12_clause_L183 hx hx h)
theorem zw_X12_clause_L33 {o N : Nat} {x1 : Int32} {x2 : Int32} {x3 : Int32} {M : v_M} {out : Int32 × v_M} {n : Nat} (hn : x1 = nI n) (hn2 : n ≤ 12) (hz : ZI o M) (h : f_X12_clause_L33 N x1 x2 x3 M = some out) : Z o M out.2 := by
  have fM : Z o M M := Z.R
  unfold f_X12_clause_L33 at h
  rcases v_iteS h with ⟨c, h⟩ | ⟨c, h⟩
  · obtain ⟨z15, hz15, h⟩ := v_bdS h
    have fz15 : Z o M z15.2 := Z.T fM (Z.of (by decide) <| fr_X12_fails hz15)
    have h := Option.some.inj h
    subst h
    exact fz15
  · rcases v_iteS h with ⟨c, h⟩ | ⟨c, h⟩
    · obtain ⟨z14, hz14, h⟩ := v_bdS h
      have fz14 : Z o M z14.2 := Z.T fM (Z.of (by decide) <| fr_X12_fails hz14)
      have h := Option.some.inj h
      subst h
      exact fz14
    · obtain ⟨z1, hz1, h⟩ := v_bdS h
      have fz1 : Z o M z1.2 := Z.T fM (Z.of (by decide) <| fr_X12_clauseOf hz1)
      obtain ⟨z2, hz2, h⟩ := v_bdS h
      have fz2 : Z o M z2.2 := Z.T fz1 (Z.of (by decide) <| fr_J0_length_8abf5 hz2)
      obtain ⟨M3, eM3, h⟩ := v_ltM h
      have fM3 : Z o M M3 := by rw [eM3]; exact Z.wo (by decide) fz2
      obtain ⟨y4, ey4, h⟩ := v_ltM h
      have hx : 12 * o ≤ y4.toNatClampNeg := by
        have e12 : ¬ n = 12 := fun w => c (by rw [hn, w]; rfl)
        have hz3 := (fM3 hz).1
        have ho := hz3.1
        rw [ey4, hz3.2.1, hn, show (12 : Int32) = nI 12 from rfl, nI_mul, nI_add, nI_clamp (by omega)]
        omega
      obtain ⟨hb, h⟩ := v_ckS h
      obtain ⟨M5, eM5, h⟩ := v_ltM h
      have fM5 : Z o M M5 := by rw [eM5]; exact Z.c hx (by decide) (by decide) fM3
      obtain ⟨hb, h⟩ := v_ckS h
      obtain ⟨M6, eM6, h⟩ := v_ltM h
      have fM6 : Z o M M6 := by rw [eM6]; exact Z.c hx (by decide) (by decide) fM5
      obtain ⟨z7, hz7, h⟩ := v_bdS h
      have fz7 : Z o M z7.2 := Z.T fM6 (Z.of (by decide) <| fr_X12_blanks hz7)
      rcases v_iteS h with ⟨c, h⟩ | ⟨c, h⟩
      · obtain ⟨z9, hz9, h⟩ := v_bdS h
        have fz9 : Z o M z9.2 := Z.T fz7 (Z.of (by decide) <| fr_X12_digits hz9)
        obtain ⟨hb, h⟩ := v_ckS h
        obtain ⟨M10, eM10, h⟩ := v_ltM h
        have fM10 : Z o M M10 := by rw [eM10]; exact Z.c hx (by decide) (by decide) fz9
        obtain ⟨z11, hz11, h⟩ := v_bdS h
        have fz11 : Z o M z11.2 := Z.T fM10 (Z.of (by decide) <| fr_X12_blanks hz11)
        rcases v_iteS h with ⟨c, h⟩ | ⟨c, h⟩
        · obtain ⟨z12, hz12, h⟩ := v_bdS h
          have fz12 : Z o M z12.2 := Z.T fz11 (Z.of (by decide) <| fr_X12_takes_ hz12)
          rcases v_iteS h with ⟨c, h⟩ | ⟨c, h⟩
          · obtain ⟨z13, hz13, h⟩ := v_bdS h
            have fz13 : Z o M z13.2 := Z.T fz12 (Z.of (by decide) <| fr_X12_fails hz13)
            exact Z.T fz13 (zw_X12_clause_L155 hx h)
          · exact Z.T fz12 (zw_X12_clause_L155 hx h)
        · exact Z.T fz11 (zw_X12_clause_L155 hx h)
      · rcases v_iteS h with ⟨c, h⟩ | ⟨c, h⟩
        · obtain ⟨z8, hz8, h⟩ := v_bdS h
          have fz8 : Z o M z8.2 := Z.T fz7 (zr_X12_sum hz8)
          exact Z.T fz8 (zw_X12_clause_L277 hx h)
        · rcases v_iteS h with ⟨c, h⟩ | ⟨c, h⟩
          · exact Z.T fz7 (zw_X12_clause_L207 hx h)
          · exact Z.T fz7 (zw_X12_clause_L277 hx h)
theorem zv_X12_clause_L11 {o N : Nat} {out : Int32 × v_M} (n : Nat) : ∀ (x1 : Int32) (x2 : Int32) (x3 : Int32) (M : v_M), (∃ m, x1 = nI m ∧ m ≤ 12) → ZI o M → f_X12_clause_L11 N n x1 x2 x3 M = some out → Z o M out.2 := by
  induction n with
  | zero => intro x1 x2 x3 M hn hz h; rw [f_X12_clause_L11] at h; cases h
  | succ n ih =>
    intro x1 x2 x3 M hn hz h
    have fM : Z o M M := Z.R
    rw [f_X12_clause_L11] at h
    rcases v_iteS h with ⟨c, h⟩ | ⟨c, h⟩
    · obtain ⟨m, hm, hm2⟩ := hn; exact Z.T fM (zw_X12_clause_L33 hm hm2 hz h)
    · obtain ⟨z1, hz1, h⟩ := v_bdS h
      have fz1 : Z o M z1.2 := Z.T fM (Z.of (by decide) <| fr_X12_clauseOf hz1)
      obtain ⟨z2, hz2, h⟩ := v_bdS h
      have fz2 : Z o M z2.2 := Z.T fz1 (Z.of (by decide) <| fr_X12_stands hz2)
      rcases v_iteS h with ⟨c, h⟩ | ⟨c, h⟩
      · exact Z.T fz2 (ih _ _ _ _ hn (fz2 hz).1 h)
      · obtain ⟨m, hm, hm2⟩ := hn; exact Z.T fz2 (zw_X12_clause_L33 hm hm2 (fz2 hz).1 h)
theorem zw_X12_clause_L11 {o N n : Nat} {x1 : Int32} {x2 : Int32} {x3 : Int32} {M : v_M} {out : Int32 × v_M} (hn : ∃ m, x1 = nI m ∧ m ≤ 12) (hz : ZI o M) (h : f_X12_clause_L11 N n x1 x2 x3 M = some out) : Z o M out.2 := zv_X12_clause_L11 n x1 x2 x3 M hn hz h
theorem zr_X12_clause {o N : Nat} {x1 : Int32} {M : v_M} {out : Int32 × v_M} (hn : ∃ m, x1 = nI m ∧ m ≤ 12) (h : f_X12_clause N x1 M = some out) : Z o M out.2 := by
  have fM : Z o M M := Z.R
  unfold f_X12_clause at h
  obtain ⟨z1, hz1, h⟩ := v_bdS h
  have fz1 : Z o M z1.2 := Z.T fM (Z.of (by decide) <| fr_X12_blanks hz1)
  obtain ⟨y2, ey2, h⟩ := v_ltM h
  exact Z.T fz1 (fun hz => zw_X12_clause_L11 hn hz h hz)
