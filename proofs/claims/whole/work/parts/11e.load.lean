/-! load and takes -/
theorem rr_n {M : v_M} {k k' : Nat} {f : Nat → Int32} (h : k' ≠ k) : (v_row M k f).1 k' = M.1 k' := if_neg h
theorem rr_s {M : v_M} {k : Nat} {f : Nat → Int32} : (v_row M k f).1 k = f := if_pos rfl
theorem cpkT {a b n n0 n1 : Nat} (h1 : a + n ≤ n0) (h2 : b + n ≤ n1) (l0 : n0 < 2 ^ 31) (l1 : n1 < 2 ^ 31) : v_cpk (nI a) (nI b) (nI n) n0 n1 = true := by
  unfold v_cpk
  rw [nI_clamp (show a < 2 ^ 31 by omega), nI_clamp (show b < 2 ^ 31 by omega), nI_clamp (show n < 2 ^ 31 by omega), decide_eq_true (show ¬ nI a < 0 from nI_nlt (b := 0) (by omega) (by omega)), decide_eq_true (show ¬ nI b < 0 from nI_nlt (b := 0) (by omega) (by omega)), decide_eq_true (show ¬ nI n < 0 from nI_nlt (b := 0) (by omega) (by omega)), decide_eq_true h1, decide_eq_true h2]
  rfl
theorem cpy0 (f g : Nat → Int32) (sp n : Nat) {i : Nat} (h : i < n) : va_cpy f g sp 0 n i = f (sp + i) := by
  unfold va_cpy
  rw [if_pos (by omega), Nat.sub_zero]
theorem e_load (N : Nat) {m : Nat} (hm : m < 20) (M : v_M) : ∃ M' : v_M, f_X2_load N 11 (nI m) M = some (0, M') ∧ v_fr [19, 20, 21, 22, 23, 24, 25] [] M M' ∧ ∀ i, i < 24 → M'.1 19 i = M.1 4 i ∧ M'.1 20 i = M.1 8 i ∧ M'.1 21 i = M.1 9 i ∧ M'.1 22 i = M.1 12 (24 * m + i) ∧ M'.1 23 i = M.1 13 (24 * m + i) ∧ M'.1 24 i = M.1 14 (24 * m + i) ∧ M'.1 25 i = M.1 15 (24 * m + i) := by
  have wm : (0 : Int32) ≤ nI m ∧ nI m ≤ 19 := ⟨nI_le (a := 0) (by omega) (by omega), nI_le (b := 19) (by omega) (by omega)⟩
  have sp : nI m * 24 + 0 = nI (24 * m) := nI_spot m 0
  have c1 : v_cpk (0 : Int32) (0 : Int32) (24 : Int32) 24 24 = true := by decide
  have c2 : v_cpk (nI (24 * m)) (0 : Int32) (24 : Int32) 480 24 = true := cpkT (b := 0) (n := 24) (by omega) (by omega) (by omega) (by omega)
  unfold f_X2_load
  rw [e_within, Option.bind_some, v_wiTe wm, e_spot, Option.bind_some, v_letE]
  simp only [sp, c1, c2, v_ckT, v_letE, nI_clamp (show 24 * m < 2 ^ 31 by omega), show (0 : Int32).toNatClampNeg = 0 from rfl, show (24 : Int32).toNatClampNeg = 24 from rfl, rr_n, ne_eq, Nat.reduceEqDiff, Nat.reduceAdd, not_false_eq_true]
  refine ⟨_, rfl, v_frr (by decide) (v_frr (by decide) (v_frr (by decide) (v_frr (by decide) (v_frr (by decide) (v_frr (by decide) (v_frr (by decide) v_frR)))))), fun i hi => ?_⟩
  simp only [rr_n, rr_s, ne_eq, Nat.reduceEqDiff, not_false_eq_true, cpy0 _ _ _ _ hi, Nat.zero_add, and_self]
def TkP (M : v_M) (m i : Nat) : Prop := M.1 94 i = M.1 82 i ∧ M.1 95 i = M.1 86 i + M.1 89 (24 * m + i) ∧ M.1 96 i = M.1 85 i ∧ M.1 97 i = M.1 88 (24 * m + i) ∧ M.1 98 i = M.1 90 (24 * m + i) ∧ M.1 99 i = M.1 91 (24 * m + i)
theorem e_takes1 (N : Nat) {m np : Nat} (hm : m < 20) (hn : np ≤ 24) : ∀ (s k f : Nat) (M : v_M), k + s = np → s < f → M.1 79 2 = nI np → (∀ i, i < k → TkP M m i) → ∃ M' : v_M, f_X12_takes_L2 N f (nI m) (nI k) M = some (0, M') ∧ v_fr [94, 95, 96, 97, 98, 99] [] M M' ∧ ∀ i, i < np → TkP M' m i := by
  intro s
  induction s with
  | zero =>
    intro k f M hk hf e h
    obtain ⟨f, rfl⟩ : ∃ q, f = q + 1 := ⟨f - 1, by omega⟩
    rw [f_X12_takes_L2, e, if_pos (nI_le (by omega) (by omega))]
    exact ⟨M, rfl, v_frR, fun i hi => h i (by omega)⟩
  | succ s ih =>
    intro k f M hk hf e h
    obtain ⟨f, rfl⟩ : ∃ q, f = q + 1 := ⟨f - 1, by omega⟩
    rw [f_X12_takes_L2, e, if_neg (nI_ge (show k < np by omega) (by omega))]
    simp only [nI_spot', v_ibN (show k < 24 by omega) (show 24 < 2 ^ 31 by omega), nI_clamp (show k < 2 ^ 31 by omega), v_ibN (show 24 * m + k < 480 by omega) (show 480 < 2 ^ 31 by omega), nI_clamp (show 24 * m + k < 2 ^ 31 by omega), v_ckT, v_letE, v_rdn, ne_eq, Nat.reduceEqDiff, not_false_eq_true, nI_1]
    have fr : v_fr [94, 95, 96, 97, 98, 99] [] M (v_wr (v_wr (v_wr (v_wr (v_wr (v_wr M 94 k (M.1 82 k)) 95 k (M.1 86 k + M.1 89 (24 * m + k))) 96 k (M.1 85 k)) 97 k (M.1 88 (24 * m + k))) 98 k (M.1 90 (24 * m + k))) 99 k (M.1 91 (24 * m + k))) := v_frw (by decide) (v_frw (by decide) (v_frw (by decide) (v_frw (by decide) (v_frw (by decide) (v_frw (by decide) v_frR)))))
    obtain ⟨M', p1, p2, p3⟩ := ih (k + 1) f _ (by omega) (by omega) (by rw [v_keepC fr 79 2 (by decide), e]) (fun i hi => by
      unfold TkP
      by_cases q : i = k
      · subst q
        simp only [v_rd, Nat.reduceEqDiff, false_and, if_false, true_and, if_true, and_self]
      · have := h i (by omega)
        unfold TkP at this
        simp only [v_rd, q, and_false, if_false]
        exact this)
    exact ⟨M', p1, v_frT fr p2, p3⟩
theorem e_takes {N : Nat} (hN : 100 ≤ N) {m np : Nat} (hm : m < 20) (hn : np ≤ 24) {M : v_M} (e : M.1 79 2 = nI np) : ∃ M' : v_M, f_X12_takes N (nI m) M = some (0, M') ∧ v_fr [94, 95, 96, 97, 98, 99] [] M M' ∧ ∀ i, i < np → TkP M' m i := by
  unfold f_X12_takes
  exact e_takes1 N hm hn np 0 N M (by omega) (by omega) e (fun i hi => absurd hi (by omega))
def tN (x : Int32) : Nat := x.toInt.toNat
def dwO (M : v_M) : Dw := ⟨fun i => tN (M.1 3 i), fun i => tN (M.1 5 i), fun i => tN (M.1 6 i), fun i => tN (M.1 7 i)⟩
theorem tN_bt {x : Int32} {a n : Nat} (h : v_bt x a n) : x = nI (tN x) ∧ a ≤ tN x ∧ tN x ≤ n := by
  have h0 : v_bt x 0 n := ⟨by have := h.1; omega, h.2⟩
  obtain ⟨e, l⟩ := v_btN h0
  refine ⟨e, ?_, l⟩
  have := h.1
  unfold tN
  omega
theorem J_drawc.dw {M : v_M} {np : Nat} (h : J_drawc M np) : DwB (dwO M) np ∧ DrC M (dwO M) (M.1 2) np ∧ DrR M (dwO M) (M.1 2) np ∧ KdB (M.1 2) np := by
  obtain ⟨h1, h2, h3, h4, -⟩ := h
  have dvb : ∀ i, i < np → 0 < i → M.1 3 i = nI (tN (M.1 3 i)) ∧ tN (M.1 3 i) < i := fun i hi i0 => by
    obtain ⟨-, -, -, z⟩ := h4 i hi
    obtain ⟨-, b, -, -⟩ := z i0
    have := tN_bt (a := 0) (n := i - 1) (show v_bt (M.1 3 i) (0 : Nat) ((i - 1 : Nat) : Int) from ⟨b.1, by have := b.2; omega⟩)
    exact ⟨this.1, by omega⟩
  have bb : ∀ i, i < np → (M.1 5 i = nI (tN (M.1 5 i)) ∧ 1 ≤ tN (M.1 5 i) ∧ tN (M.1 5 i) ≤ 9) ∧ (M.1 6 i = nI (tN (M.1 6 i)) ∧ 1 ≤ tN (M.1 6 i) ∧ tN (M.1 6 i) ≤ 9) ∧ (M.1 7 i = nI (tN (M.1 7 i)) ∧ tN (M.1 7 i) ≤ 999) := fun i hi => by
    obtain ⟨-, ⟨-, -, b3, b4, b5, -⟩, -⟩ := h4 i hi
    exact ⟨tN_bt (a := 1) (n := 9) b3, tN_bt (a := 1) (n := 9) b4, (tN_bt (a := 0) (n := 999) b5).1, (tN_bt (a := 0) (n := 999) b5).2.2⟩
  refine ⟨⟨h1, fun i hi => ?_⟩, ⟨h2, fun i hi => ?_⟩, ⟨h3, fun i hi => ?_⟩, fun i hi => ?_⟩
  · obtain ⟨b5, b6, b7⟩ := bb i hi
    exact ⟨fun i0 => (dvb i hi i0).2, b5.2, b6.2, b7.2⟩
  · obtain ⟨b5, b6, b7⟩ := bb i hi
    exact ⟨rfl, fun i0 => (dvb i hi i0).1, b5.1, b6.1, b7.1⟩
  · obtain ⟨b5, b6, b7⟩ := bb i hi
    obtain ⟨⟨r1, r2, -, r4, r5, -⟩, -⟩ := h4 i hi
    refine ⟨r1, fun i0 => by rw [r2]; exact (dvb i hi i0).1, ?_, by rw [r5]; exact b7.1⟩
    rw [r4, b5.1, b6.1, show (10 : Int32) = nI 10 from rfl, nI_mul, nI_add]
    show _ = nI (10 * tN (M.1 5 i) + tN (M.1 6 i))
    rw [Nat.mul_comm]
  · obtain ⟨-, ⟨b1, -⟩, z, -⟩ := h4 i hi
    have := tN_bt (a := 0) (n := 5) b1
    exact ⟨⟨tN (M.1 2 i), by omega, this.1⟩, fun i0 => (z i0).1⟩
def gO (M : v_M) (i : Nat) : Nat := tN (M.1 4 i)
def wO (M : v_M) (m i : Nat) : Nat := tN (M.1 12 (24 * m + i))
def eO (M : v_M) (m i : Nat) : Nat := tN (M.1 14 (24 * m + i))
def mO (M : v_M) (m i : Nat) : Int32 := M.1 9 i + M.1 13 (24 * m + i)
def pO (M : v_M) (m i : Nat) : Int32 := M.1 15 (24 * m + i)
theorem J_door {M : v_M} {np nm m : Nat} (hd : J_drawc M np) (hf : J_fleetc M np nm) (hm : m < nm) : DoB np (gO M) (wO M m) (eO M m) ∧ (∀ i, i < np → M.1 4 i = nI (gO M i) ∧ M.1 12 (24 * m + i) = nI (wO M m i) ∧ M.1 14 (24 * m + i) = nI (eO M m i)) ∧ (∀ i, i < np → ∃ p : Nat, p ≤ 999 ∧ pO M m i = nI p) := by
  obtain ⟨h1, h2, h3, h4, -⟩ := hd
  obtain ⟨f1, f2, ⟨f3, f4, f5, -⟩, -⟩ := hf
  refine ⟨⟨fun i hi => ?_, ?_⟩, fun i hi => ?_, fun i hi => ?_⟩
  · obtain ⟨-, ⟨-, b2, -⟩, -⟩ := h4 i hi
    obtain ⟨w1, -, w3, -⟩ := f5 (24 * m + i) (by omega)
    have a1 := tN_bt (a := 0) (n := 99) b2
    have a2 := tN_bt (a := 0) (n := 99) w1
    have a3 := tN_bt (a := 0) (n := 9999) w3
    unfold gO wO eO
    omega
  · obtain ⟨-, -, -, -, w5⟩ := f5 (24 * m + 0) (by omega)
    unfold eO
    rw [w5 (by omega)]
    rfl
  · obtain ⟨-, ⟨-, b2, -⟩, -⟩ := h4 i hi
    obtain ⟨w1, -, w3, -⟩ := f5 (24 * m + i) (by omega)
    exact ⟨(tN_bt (a := 0) (n := 99) b2).1, (tN_bt (a := 0) (n := 99) w1).1, (tN_bt (a := 0) (n := 9999) w3).1⟩
  · obtain ⟨-, -, -, w4, -⟩ := f5 (24 * m + i) (by omega)
    have := tN_bt (a := 0) (n := 999) w4
    exact ⟨_, this.2.2, this.1⟩
/-- the class's door, loaded -/
theorem J_load {N : Nat} {M : v_M} {np nm m : Nat} (hd : J_drawc M np) (hf : J_fleetc M np nm) (hm : m < nm) : ∃ M' : v_M, f_X2_load N 11 (nI m) M = some (0, M') ∧ v_fr [19, 20, 21, 22, 23, 24, 25] [] M M' ∧ DrC M' (dwO M) (M.1 2) np ∧ DoC M' np (gO M) (wO M m) (eO M m) (M.1 8) (mO M m) ∧ (∀ i, i < np → M'.1 25 i = pO M m i) ∧ ∀ i, i < 24 → M'.1 24 i = M.1 14 (24 * m + i) ∧ M'.1 25 i = M.1 15 (24 * m + i) := by
  obtain ⟨b1, b2, b3⟩ := J_door hd hf hm
  have h20 : nm ≤ 20 := hf.2.2.1.1
  obtain ⟨M', p1, p2, p3⟩ := e_load N (show m < 20 by omega) M
  have h24 := hd.1
  refine ⟨M', p1, p2, hd.dw.2.1.keep p2 (by decide) (by decide), fun i hi => ?_, fun i hi => (p3 i (by omega)).2.2.2.2.2.2, fun i hi => ⟨(p3 i hi).2.2.2.2.2.1, (p3 i hi).2.2.2.2.2.2⟩⟩
  obtain ⟨q1, q2, q3, q4, q5, q6, q7⟩ := p3 i (by omega)
  obtain ⟨c1, c2, c3⟩ := b2 i hi
  exact ⟨by rw [q1]; exact c1, by rw [q4]; exact c2, by rw [q6]; exact c3, q2, by rw [q3, q5]; rfl⟩
/-- the reference's, taken at a memory whose reference rows are those of M -/
theorem J_take {N : Nat} (hN : 100 ≤ N) {W : List Nat} {M A : v_M} {np nm m : Nat} (hd : J_drawc M np) (hf : J_fleetc M np nm) (hm : m < nm) (fr : v_fr W [] M A) (hk : ([79, 80, 81, 82, 83, 84, 85, 86, 88, 89, 90, 91].all (fun k => !(W.contains k))) = true) : ∃ M' : v_M, f_X12_takes N (nI m) A = some (0, M') ∧ v_fr [94, 95, 96, 97, 98, 99] [] A M' ∧ DrR M' (dwO M) (M.1 2) np ∧ DoR M' np (gO M) (wO M m) (eO M m) (M.1 8) (mO M m) ∧ (∀ i, i < np → M'.1 99 i = pO M m i) := by
  have e : ∀ k ∈ [79, 80, 81, 82, 83, 84, 85, 86, 88, 89, 90, 91], A.1 k = M.1 k := fun k hm => v_keepR fr k (by have := List.all_eq_true.mp hk k hm; simpa using this)
  have h20 : nm ≤ 20 := hf.2.2.1.1
  have h24 := hd.1
  obtain ⟨b1, b2, b3⟩ := J_door hd hf hm
  obtain ⟨M', p1, p2, p3⟩ := e_takes hN (show m < 20 by omega) h24 (M := A) (by rw [e 79 (by decide)]; exact hd.2.2.1)
  have dr : DrR A (dwO M) (M.1 2) np := by
    have := hd.dw.2.2.1
    unfold DrR at this ⊢
    rw [e 79 (by decide), e 80 (by decide), e 81 (by decide), e 83 (by decide), e 84 (by decide)]
    exact this
  refine ⟨M', p1, p2, dr.keep p2 (by decide) (by decide), fun i hi => ?_, fun i hi => ?_⟩
  all_goals
    obtain ⟨t1, t2, t3, t4, t5, t6⟩ := p3 i hi
    rw [v_keepR p2 82 (by decide), e 82 (by decide)] at t1
    rw [v_keepR p2 86 (by decide), v_keepR p2 89 (by decide), e 86 (by decide), e 89 (by decide)] at t2
    rw [v_keepR p2 85 (by decide), e 85 (by decide)] at t3
    rw [v_keepR p2 88 (by decide), e 88 (by decide)] at t4
    rw [v_keepR p2 90 (by decide), e 90 (by decide)] at t5
    rw [v_keepR p2 91 (by decide), e 91 (by decide)] at t6
    obtain ⟨⟨-, -, r3, -, -, r6, r7, -⟩, -⟩ := hd.2.2.2.1 i hi
    obtain ⟨w1, w2, w3, w4⟩ := hf.2.2.2.1 (24 * m + i) (by omega)
    obtain ⟨c1, c2, c3⟩ := b2 i hi
  · exact ⟨by rw [t1, r3]; exact c1, by rw [t4, w1]; exact c2, by rw [t5, w3]; exact c3, by rw [t3, r6], by rw [t2, r7, w2]; rfl⟩
  · rw [t6, w4]; rfl
