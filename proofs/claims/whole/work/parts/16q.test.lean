/-! a test: both alike -/
def r3_Res (N q o : Nat) (c : Nat → Nat) (T K d : Nat) (S : List Nat) (p v : Nat) (L : List Op) (B : v_M) (w b : Bool) (A' : v_M) : Prop :=
  (b = true → ∃ (B' : v_M) (S' : List Op) (a p' m : Nat), r3_J w S' a ∧ (¬ t_tk c T p' = 277 ∧ ¬ t_tk c T p' = 278) ∧ CR A' q c T K p' (v + a) (L ++ S') ∧ PB B' c T p' ∧ RC B' o (v + a) (L ++ S') ∧ RX B' d S ∧ v + a ≤ 60 ∧ p ≤ p' ∧ 3 * S'.length ≤ 6 * a + (p' - p) + r3_g w ∧ m ≤ p' - p ∧ ∀ n, LN N (n + m + 1) B = LN N (n + 1) B') ∧ (b = false → ∃ (B' : v_M) (m F : Nat), A'.1 35 6 = nI F ∧ FB1 B' c T F ∧ m + p ≤ T + 1 ∧ ∀ n, LN N (n + m + 1) B = some (0, B'))
theorem r3_end {N : Nat} (hN : 1000 ≤ N) {q o : Nat} {c : Nat → Nat} {T K d : Nat} (rf : r3_RF) {S : List Nat} (h9 : S.head? ≠ some 9) (h10 : S.head? ≠ some 10) (h11 : S.head? ≠ some 11) {w : Bool} {p v : Nat} {L : List Op} {A B : v_M} (hv : v ≤ 60) (hc : CR A q c T K p v L) (hp : PB B c T p) (hr : RC B o v L) (hx : RX B d (r3_S w S)) (hw : 3 * (L.length + Wn S) + r3_g w ≤ 6 * v + p) (hk1 : ¬ t_tk c T p = 277) (hk2 : ¬ t_tk c T p = 278) : ∃ A' : v_M, f_X7_readTest_L125 N q rf (v01 w) A = some (v01 true, A') ∧ r3_Res N q o c T K d S p v L B w true A' := by
  have hT := hc.2.2.1
  have hple := hc.ple
  unfold f_X7_readTest_L125
  rw [v01_0]
  cases w with
  | false => exact ⟨A, by rw [if_neg (by decide), v_b1, v_ckT]; rfl, fun _ => ⟨B, [], 0, p, 0, r3_J0, ⟨hk1, hk2⟩, by rw [List.append_nil]; exact hc, hp, by rw [List.append_nil]; exact hr, hx, by omega, Nat.le_refl _, by rw [List.length_nil]; omega, by omega, fun n => rfl⟩, (fun w => nomatch w)⟩
  | true =>
    obtain ⟨A1, a1, c1⟩ := e_emit N hc (by omega) (11, 0) (x := -17) rfl
    obtain ⟨B1, e1, p1, r1, x1⟩ := LN_or hN (O := S) hx h9 h10 h11 hr hp hc.sk (by omega) hk2
    exact ⟨A1, by rw [if_pos rfl, a1, Option.bind_some, v_b1, v_ckT]; rfl, fun _ => ⟨B1, [(11, 0)], 0, p, 0, r3_J1, ⟨hk1, hk2⟩, c1, ⟨p, p1, hc.sk⟩, r1, x1, by omega, Nat.le_refl _, (show 3 * 1 ≤ 6 * 0 + (p - p) + 3 by omega), by omega, fun n => e1 n⟩, (fun w => nomatch w)⟩
theorem r3_loop {N : Nat} (hN : 1000 ≤ N) {q o : Nat} {c : Nat → Nat} {T K d : Nat} {rf : r3_RF} (hf : FactOK N q o c T K rf d) {S : List Nat} (h9 : S.head? ≠ some 9) (h10 : S.head? ≠ some 10) (h11 : S.head? ≠ some 11) : ∀ (e n p v f : Nat) (w : Bool) (L : List Op) (A B : v_M), 60 ≤ v + e ∧ v ≤ 60 → n + e ≤ 300 → CR A q c T K p v L → PB B c T p → RC B o v L → RX B d (r3_S w S) → (r3_S w S).length ≤ p → 3 * (L.length + Wn S) + r3_g w ≤ 6 * v + p → ∃ (b : Bool) (A' : v_M), f_X7_readTest_L14 N q rf (f + e + 1) (nI d) (v01 w) (nI n) A = some (v01 b, A') ∧ r3_Res N q o c T K d S p v L B w b A' := by
  intro e
  induction e with
  | zero =>
    intro n p v f w L A B hv hn hc hp hr hx hS hw
    have s78 := hc.sg (j := 278) (x := 278) (by omega) rfl
    have s77 := hc.sg (j := 277) (x := 277) (by omega) rfl
    by_cases hk : t_tk c T p = 278 ∨ t_tk c T p = 277
    · rw [r3_14 N q rf (f + 0) (nI d) (v01 w) (n := n) (by omega) (hk.imp s78.mpr s77.mpr)]
      rcases r3_turn hN hf h9 h10 h11 (f_X7_readTest_L14 N q rf (f + 0)) (n := n) hv.2 hc hp hr hx hS hw hk with ⟨A', B', m, F, z1, z2, z3, z4, z5⟩ | ⟨A', B', w', X, a, p', m, z1, z2, z3, _⟩
      · exact ⟨false, A', z1, (fun w => nomatch w), fun _ => ⟨B', m, F, z2, z3, z4, z5⟩⟩
      · omega
    · have hk2 : ¬ t_tk c T p = 278 := fun z => hk (Or.inl z)
      have hk1 : ¬ t_tk c T p = 277 := fun z => hk (Or.inr z)
      rw [r3_14e N q rf (f + 0) (nI d) (v01 w) (n := n) (by omega) (fun z => hk2 (s78.mp z)) (fun z => hk1 (s77.mp z))]
      obtain ⟨A', a', r'⟩ := r3_end hN rf h9 h10 h11 hv.2 hc hp hr hx hw hk1 hk2
      exact ⟨true, A', a', r'⟩
  | succ e ih =>
    intro n p v f w L A B hv hn hc hp hr hx hS hw
    have s78 := hc.sg (j := 278) (x := 278) (by omega) rfl
    have s77 := hc.sg (j := 277) (x := 277) (by omega) rfl
    by_cases hk : t_tk c T p = 278 ∨ t_tk c T p = 277
    · rw [r3_14 N q rf (f + (e + 1)) (nI d) (v01 w) (n := n) (by omega) (hk.imp s78.mpr s77.mpr)]
      rcases r3_turn hN hf h9 h10 h11 (f_X7_readTest_L14 N q rf (f + (e + 1))) (n := n) hv.2 hc hp hr hx hS hw hk with ⟨A', B', m, F, z1, z2, z3, z4, z5⟩ | ⟨A1, B1, w1, X, a, p1, m, z1, ha, hv1, c1, pb1, r1, x1, hS1, hp1, hl1, hm1, en1, j1⟩
      · exact ⟨false, A', z1, (fun w => nomatch w), fun _ => ⟨B', m, F, z2, z3, z4, z5⟩⟩
      · have hlen : (L ++ X).length = L.length + X.length := List.length_append
        obtain ⟨b, A2, a2, g1, g2⟩ := ih (n + 1) p1 (v + a) f w1 (L ++ X) A1 B1 (by omega) (by omega) c1 pb1 r1 x1 hS1 (by rw [hlen]; omega)
        refine ⟨b, A2, z1.trans a2, ?_, ?_⟩
        · intro y
          obtain ⟨B6, S6, a6, p6, m6, j6, t6, c6, pb6, r6, x6, hv6, hp6, hl6, hm6, en6⟩ := g1 y
          have eL : L ++ (X ++ S6) = L ++ X ++ S6 := by simp
          have ev : v + (a + a6) = v + a + a6 := by omega
          refine ⟨B6, X ++ S6, a + a6, p6, m + m6, j1 S6 a6 j6, t6, by rw [eL, ev]; exact c6, pb6, by rw [eL, ev]; exact r6, x6, by omega, by omega, by rw [List.length_append]; omega, by omega, fun n => ?_⟩
          rw [show n + (m + m6) + 1 = n + m6 + m + 1 by omega, en1]
          exact en6 n
        · intro y
          obtain ⟨B6, m6, F, eF, fb, hm, en6⟩ := g2 y
          refine ⟨B6, m + m6, F, eF, fb, by omega, fun n => ?_⟩
          rw [show n + (m + m6) + 1 = n + m6 + m + 1 by omega, en1]
          exact en6 n
    · have hk2 : ¬ t_tk c T p = 278 := fun z => hk (Or.inl z)
      have hk1 : ¬ t_tk c T p = 277 := fun z => hk (Or.inr z)
      rw [r3_14e N q rf (f + (e + 1)) (nI d) (v01 w) (n := n) (by omega) (fun z => hk2 (s78.mp z)) (fun z => hk1 (s77.mp z))]
      obtain ⟨A', a', r'⟩ := r3_end hN rf h9 h10 h11 hv.2 hc hp hr hx hw hk1 hk2
      exact ⟨true, A', a', r'⟩
theorem s_test {N : Nat} (hN : 1000 ≤ N) {q o : Nat} {c : Nat → Nat} {T K d : Nat} {rf : Int32 → v_M → Option (Int32 × v_M)} (hf : FactOK N q o c T K rf d) {S : List Nat} (h9 : S.head? ≠ some 9) (h10 : S.head? ≠ some 10) (h11 : S.head? ≠ some 11) {p v : Nat} {L : List Op} {A B : v_M} (hc : CR A q c T K p v L) (hp : PB B c T p) (hr : RC B o v L) (hv : v ≤ 60) (hx : RX B d S) (hS : S.length ≤ p) (hw : 3 * (L.length + Wn S) ≤ 6 * v + p) : ∃ (b : Bool) (A' : v_M), f_X7_readTest N q rf (nI d) A = some (v01 b, A') ∧ Res N q o c T K d S p v L (fun n => LW N n B) 3 b A' (fun S' a p' => TruE S' a ∧ ¬ t_tk c T p' = 277 ∧ ¬ t_tk c T p' = 278) := by
  obtain ⟨b, A2, a2, g1, g2⟩ := hf A B p v L S hc hp hr hv hx hS hw
  unfold f_X7_readTest
  rw [a2, Option.bind_some]
  dsimp only
  rw [v01_0]
  cases b with
  | true =>
    obtain ⟨B3, S3, a3, p3, m3, j3, c3, pb3, r3, x3, hv3, hp3, hl3, hm3, en3⟩ := g1 rfl
    have hlen : (L ++ S3).length = L.length + S3.length := List.length_append
    have gf : r3_g false = 0 := rfl
    obtain ⟨b5, A5, a5, k1, k2⟩ := r3_loop hN hf h9 h10 h11 60 0 p3 (v + a3) (N - 61) false (L ++ S3) A2 B3 ⟨by omega, hv3⟩ (by omega) c3 pb3 r3 x3 (show S.length ≤ p3 by omega) (by rw [hlen]; omega)
    rw [show N - 61 + 60 + 1 = N by omega] at a5
    refine ⟨b5, A5, by rw [if_pos rfl]; exact a5, ?_, ?_⟩
    · intro w
      obtain ⟨B6, S6, a6, p6, m6, j6, t6, c6, pb6, r6, x6, hv6, hp6, hl6, hm6, en6⟩ := k1 w
      have eL : L ++ (S3 ++ S6) = L ++ S3 ++ S6 := by simp
      have ev : v + (a3 + a6) = v + a3 + a6 := by omega
      refine ⟨B6, S3 ++ S6, a3 + a6, p6, m3 + m6, ⟨?_, t6⟩, by rw [eL, ev]; exact c6, pb6, by rw [eL, ev]; exact r6, x6, by omega, by omega, by rw [List.length_append]; omega, by omega, fun n => ?_⟩
      · have := j6 [] 0 S3 a3 (fun w => nomatch w) (fun _ => ⟨rfl, rfl⟩) j3
        rw [List.nil_append, Nat.zero_add] at this
        exact this
      · have := en3 (n + m6)
        dsimp only at this ⊢
        rw [show n + (m3 + m6) + 1 = n + m6 + m3 + 1 by omega, this]
        exact en6 n
    · intro w
      obtain ⟨B6, m6, F, eF, fb, hm, en6⟩ := k2 w
      refine ⟨B6, m3 + m6, F, eF, fb, by omega, fun n => ?_⟩
      have := en3 (n + m6)
      dsimp only at this ⊢
      rw [show n + (m3 + m6) + 1 = n + m6 + m3 + 1 by omega, this]
      exact en6 n
  | false =>
    obtain ⟨B3, m3, F, eF, fb, hm, en⟩ := g2 rfl
    exact ⟨false, A2, by rw [if_neg (by decide), v_b0, v_ckT]; rfl, (fun w => nomatch w), fun _ => ⟨B3, m3, F, eF, fb, hm, en⟩⟩
