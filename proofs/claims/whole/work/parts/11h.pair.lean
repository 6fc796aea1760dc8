/-! one pair of wear, tried -/
def wat (w : Nat → Nat) (a b x y i : Nat) : Nat := if i = b then y else if i = a then x else w i
def unq (D : Dw) (kd st mk : Nat → Int32) (g w e : Nat → Nat) (np a b : Nat) (x2 x5 : Int32) (x y : Nat) : Bool := unl kd D.dv (fun i => nI (plv D (dX g (wat w a b x y) e kd st x2) (min 999 (far D (dX g (wat w a b x y) e kd st x2) np)) i)) mk np x5
def TrC (A : v_M) (D : Dw) (kd st mk : Nat → Int32) (g w e : Nat → Nat) (np a b : Nat) : Prop := DrC A D kd np ∧ ∃ w' : Nat → Nat, (∀ i, i ≠ a → i ≠ b → w' i = w i) ∧ DoC A np g w' e st mk
def TrR (A : v_M) (D : Dw) (kd st mk : Nat → Int32) (g w e : Nat → Nat) (np a b : Nat) : Prop := DrR A D kd np ∧ ∃ w' : Nat → Nat, (∀ i, i ≠ a → i ≠ b → w' i = w i) ∧ DoR A np g w' e st mk
theorem wat_eq {w w' : Nat → Nat} {a b : Nat} (x y : Nat) (h : ∀ i, i ≠ a → i ≠ b → w' i = w i) : wat w' a b x y = wat w a b x y := by
  funext i
  unfold wat
  by_cases p : i = b
  · rw [if_pos p, if_pos p]
  · rw [if_neg p, if_neg p]
    by_cases q : i = a
    · rw [if_pos q, if_pos q]
    · rw [if_neg q, if_neg q, h i q p]
theorem wat_off (w : Nat → Nat) {a b : Nat} (x y : Nat) : ∀ i, i ≠ a → i ≠ b → wat w a b x y i = w i := fun i p q => by
  unfold wat
  rw [if_neg q, if_neg p]
theorem wat_B {np : Nat} {g w e : Nat → Nat} {a b x y : Nat} (h : DoB np g w e) (hx : x ≤ 15) (hy : y ≤ 15) : DoB np g (wat w a b x y) e := ⟨fun i hi => by
  obtain ⟨p, q, r⟩ := h.1 i hi
  refine ⟨p, ?_, r⟩
  unfold wat
  split
  · omega
  · split <;> omega, h.2⟩
theorem d16 {x y : Nat} (hx : x ≤ 15) (hy : y ≤ 15) : nI (16 * x + y) / 16 = nI x ∧ nI (16 * x + y) - nI x * 16 = nI y := by
  constructor
  · rw [show (16 : Int32) = nI 16 from rfl, nI_div (by omega) (by omega)]
    congr 1
    omega
  · rw [show (16 : Int32) = nI 16 from rfl, nI_mul, nI_sub (by omega) (by omega)]
    congr 1
    omega
theorem e_at1 {N : Nat} (hN : 100 ≤ N) {D : Dw} {kd st mk : Nat → Int32} {g w e : Nat → Nat} {np a b x y : Nat} (x4 x5 : Int32) (hD : DwB D np) (hK : KdB kd np) (hB : DoB np g w e) (ha : a < np) (hb : b < np) (hx : x ≤ 15) (hy : y ≤ 15) {A : v_M} (hA : TrC A D kd st mk g w e np a b) : ∃ A' : v_M, f_X11_isUnlikeAt N (nI a) (nI b) (nI (16 * x + y)) x4 x5 A = some (v01 (unq D kd st mk g w e np a b x4 x5 x y), A') ∧ v_fr [22, 25, 26, 27] [] A A' ∧ TrC A' D kd st mk g w e np a b := by
  obtain ⟨hR, w', hw, hO⟩ := hA
  have h24 := hD.1
  have wa := i_idx' (j := a) (c := np) (by omega) ha
  have wb := i_idx' (j := b) (c := np) (by omega) hb
  obtain ⟨s1, s2⟩ := d16 hx hy
  unfold f_X11_isUnlikeAt
  rw [e_hasPart, Option.bind_some, hR.1, v_wiTe wa, e_hasPart, Option.bind_some, hR.1, v_wiTe wb]
  simp only [s1, s2, show v_nz (16 : Int32) = true from rfl, v_ckT, v_letE, v_ibN (show a < 24 by omega) (show 24 < 2 ^ 31 by omega), nI_clamp (show a < 2 ^ 31 by omega), v_ibN (show b < 24 by omega) (show 24 < 2 ^ 31 by omega), nI_clamp (show b < 2 ^ 31 by omega)]
  have fr : v_fr [22, 25, 26, 27] [] A (v_wr (v_wr A 22 a (nI x)) 22 b (nI y)) := v_frw (by decide) (v_frw (by decide) v_frR)
  have hR2 := hR.keep fr (by decide) (by decide)
  have hO2 : DoC (v_wr (v_wr A 22 a (nI x)) 22 b (nI y)) np g (wat w a b x y) e st mk := fun i hi => by
    obtain ⟨o1, o2, o3, o4, o5⟩ := hO i hi
    simp only [v_rd, Nat.reduceEqDiff, false_and, if_false, true_and]
    refine ⟨o1, ?_, o3, o4, o5⟩
    unfold wat
    by_cases p : i = b
    · rw [if_pos p, if_pos p]
    · rw [if_neg p, if_neg p]
      by_cases q : i = a
      · rw [if_pos q, if_pos q]
      · rw [if_neg q, if_neg q, o2, hw i q p]
  obtain ⟨B, q1, q2, q3, q4⟩ := e_press hN x4 hD (wat_B (a := a) (b := b) hB hx hy) (show 0 < np by omega) (show 999 ≤ 999 by omega) hR2 hO2
  have hR3 := hR2.keep q2 (by decide) (by decide)
  have hO3 := hO2.keep q2 (by decide)
  have u := e_unl1 hN (pl := fun i => nI (plv D (dX g (wat w a b x y) e kd st x4) (min 999 (far D (dX g (wat w a b x y) e kd st x4) np)) i)) x5 hD hK hR3 hO3 (fun i hi => (q3 i hi).1)
  refine ⟨B, ?_, v_frT fr (v_frt (W := [22, 25, 26, 27]) (O := []) (by decide) (by decide) v_frR q2), hR3, wat w a b x y, wat_off w x y, hO3⟩
  rw [show (999 : Int32) = nI 999 from rfl, q1, Option.bind_some, u, Option.bind_some, v01_b, v_ckT]
  rfl
theorem e_at2 {N : Nat} (hN : 2000 ≤ N) {D : Dw} {kd st mk : Nat → Int32} {g w e : Nat → Nat} {np a b x y : Nat} (x4 x5 : Int32) (hD : DwB D np) (hK : KdB kd np) (hB : DoB np g w e) (ha : a < np) (hx : x ≤ 15) (hy : y ≤ 15) {A : v_M} (hA : TrR A D kd st mk g w e np a b) : ∃ A' A'' : v_M, f_X12_pushes N 999 x4 (v_wr (v_wr A 97 a (nI x)) 97 b (nI y)) = some (nI (min 999 (far D (dX g (wat w a b x y) e kd st x4) np)), A') ∧ f_X12_isUnlike N x5 A' = some (v01 (unq D kd st mk g w e np a b x4 x5 x y), A'') ∧ v_fr [97, 99, 100] [] A A'' ∧ TrR A'' D kd st mk g w e np a b := by
  obtain ⟨hR, w', hw, hO⟩ := hA
  have h24 := hD.1
  have fr : v_fr [97, 99, 100] [] A (v_wr (v_wr A 97 a (nI x)) 97 b (nI y)) := v_frw (by decide) (v_frw (by decide) v_frR)
  have hR2 := hR.keep fr (by decide) (by decide)
  have hO2 : DoR (v_wr (v_wr A 97 a (nI x)) 97 b (nI y)) np g (wat w a b x y) e st mk := fun i hi => by
    obtain ⟨o1, o2, o3, o4, o5⟩ := hO i hi
    simp only [v_rd, Nat.reduceEqDiff, false_and, if_false, true_and]
    refine ⟨o1, ?_, o3, o4, o5⟩
    unfold wat
    by_cases p : i = b
    · rw [if_pos p, if_pos p]
    · rw [if_neg p, if_neg p]
      by_cases q : i = a
      · rw [if_pos q, if_pos q]
      · rw [if_neg q, if_neg q, o2, hw i q p]
  obtain ⟨B, q1, q2, q3⟩ := e_pushes hN x4 hD (wat_B (a := a) (b := b) hB hx hy) (show 0 < np by omega) ((hK 0 (by omega)).2 rfl) (show 999 ≤ 999 by omega) N 0 999 _ (by omega) (by omega) (by omega) (by omega) (by omega) (Nat.le_refl _) hR2 hO2
  have hR3 := hR2.keep q2 (by decide) (by decide)
  have hO3 := hO2.keep q2 (by decide)
  have u := e_unl2 (show 100 ≤ N by omega) (pl := fun i => nI (plv D (dX g (wat w a b x y) e kd st x4) (min 999 (far D (dX g (wat w a b x y) e kd st x4) np)) i)) x5 hD hK hR3 hO3 (fun i hi => (q3 i hi).1)
  refine ⟨B, B, ?_, u, v_frT fr (v_frt (W := [97, 99, 100]) (O := []) (by decide) (by decide) v_frR q2), hR3, wat w a b x y, wat_off w x y, hO3⟩
  unfold f_X12_pushes
  exact q1
