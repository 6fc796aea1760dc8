/-! facts joined: the class reads and and or in one loop, and one or waits -/
abbrev r3_RF : Type := Int32 → v_M → Option (Int32 × v_M)
abbrev r3_KF : Type := Int32 → Int32 → Int32 → v_M → Option (Int32 × v_M)
def r3_S : Bool → List Nat → List Nat
  | true, S => 11 :: S
  | false, S => S
def r3_g : Bool → Nat
  | true => 3
  | false => 0
/-- what behind two tests (the first only where an or waits) makes one test -/
def r3_J (w : Bool) (S' : List Op) (a : Nat) : Prop := ∀ (S0 : List Op) (a0 : Nat) (S1 : List Op) (a1 : Nat), (w = true → TruE S0 a0) → (w = false → S0 = [] ∧ a0 = 0) → TruE S1 a1 → TruE (S0 ++ S1 ++ S') (a0 + a1 + a)
theorem r3_S_ne {S : List Nat} {k : Nat} (h : S.head? ≠ some k) (hk : k ≠ 11) (w : Bool) : (r3_S w S).head? ≠ some k := by
  cases w with
  | true => exact fun z => hk (Option.some.inj z).symm
  | false => exact h
theorem r3_S_W (S : List Nat) (w : Bool) : Wn (r3_S w S) = Wn S := by
  cases w with
  | true =>
    show Wn (11 :: S) = _
    rw [Wn, if_neg (by omega)]
    omega
  | false => rfl
theorem r3_J0 : r3_J false [] 0 := by
  intro S0 a0 S1 a1 _ h0 h1
  obtain ⟨rfl, rfl⟩ := h0 rfl
  rw [List.append_nil, List.nil_append, Nat.zero_add, Nat.add_zero]
  exact h1
theorem r3_J1 : r3_J true [(11, 0)] 0 := fun S0 a0 S1 a1 h0 _ h1 => tru_join (h0 rfl) h1 (Or.inr rfl)
theorem r3_Jand {w : Bool} {S3 S6 : List Op} {a3 a6 : Nat} (h3 : TruE S3 a3) (h : r3_J w S6 a6) : r3_J w (S3 ++ [(10, 0)] ++ S6) (a3 + a6) := by
  intro S0 a0 S1 a1 h0 h0' h1
  have := h S0 a0 (S1 ++ S3 ++ [(10, 0)]) (a1 + a3) h0 h0' (tru_join h1 h3 (Or.inl rfl))
  rw [show S0 ++ S1 ++ (S3 ++ [(10, 0)] ++ S6) = S0 ++ (S1 ++ S3 ++ [(10, 0)]) ++ S6 by simp, show a0 + a1 + (a3 + a6) = a0 + (a1 + a3) + a6 by omega]
  exact this
theorem r3_Jor0 {S3 S6 : List Op} {a3 a6 : Nat} (h3 : TruE S3 a3) (h : r3_J true S6 a6) : r3_J false (S3 ++ S6) (a3 + a6) := by
  intro S0 a0 S1 a1 _ h0 h1
  obtain ⟨rfl, rfl⟩ := h0 rfl
  have := h S1 a1 S3 a3 (fun _ => h1) (fun w => nomatch w) h3
  rw [show [] ++ S1 ++ (S3 ++ S6) = S1 ++ S3 ++ S6 by simp, show 0 + a1 + (a3 + a6) = a1 + a3 + a6 by omega]
  exact this
theorem r3_Jor1 {S3 S6 : List Op} {a3 a6 : Nat} (h3 : TruE S3 a3) (h : r3_J true S6 a6) : r3_J true ([(11, 0)] ++ S3 ++ S6) (a3 + a6) := by
  intro S0 a0 S1 a1 h0 _ h1
  have := h (S0 ++ S1 ++ [(11, 0)]) (a0 + a1) S3 a3 (fun _ => tru_join (h0 rfl) h1 (Or.inr rfl)) (fun w => nomatch w) h3
  rw [show S0 ++ S1 ++ ([(11, 0)] ++ S3 ++ S6) = S0 ++ S1 ++ [(11, 0)] ++ S3 ++ S6 by simp, show a0 + a1 + (a3 + a6) = a0 + a1 + a3 + a6 by omega]
  exact this
/-! the class's turn, in words of its sign -/
theorem r3_and (N q : Nat) (rf : r3_RF) (k : r3_KF) (x n : Int32) (w : Bool) {A : v_M} (h : A.1 35 3 = (278 : Int32)) : f_X7_readTest_L41 N q rf k x (v01 w) n A = f_X7_readTest_L90 N q rf k x n (v01 true) (v01 w) A := by
  unfold f_X7_readTest_L41 f_X7_readTest_L56 f_X7_readTest_L76 f_X7_readTest_L85
  rw [if_pos h, if_neg (show ¬ (1 : Int32) = 0 by decide)]
  cases w with
  | true =>
    rw [if_neg (show ¬ v01 true = 0 by decide)] <;> rfl
  | false =>
    rw [if_pos (show v01 false = 0 from rfl), if_neg (show ¬ (1 : Int32) = 0 by decide)] <;> rfl
theorem r3_or0 (N q : Nat) (rf : r3_RF) (k : r3_KF) (x n : Int32) {A : v_M} (h : ¬ A.1 35 3 = (278 : Int32)) : f_X7_readTest_L41 N q rf k x (v01 false) n A = f_X7_readTest_L90 N q rf k x n (v01 false) (v01 true) A := by
  unfold f_X7_readTest_L41 f_X7_readTest_L56 f_X7_readTest_L76 f_X7_readTest_L85
  rw [if_neg h, if_pos (show (0 : Int32) = 0 from rfl), if_pos (show v01 false = 0 from rfl), if_pos (show v01 false = 0 from rfl), if_pos (show (0 : Int32) = 0 from rfl)] <;> rfl
theorem r3_or1 (N q : Nat) (rf : r3_RF) (k : r3_KF) (x n : Int32) {A A1 : v_M} (h : ¬ A.1 35 3 = (278 : Int32)) (h1 : f_X5_emit N q (-17 : Int32) A = some (0, A1)) : f_X7_readTest_L41 N q rf k x (v01 true) n A = f_X7_readTest_L90 N q rf k x n (v01 false) (v01 true) A1 := by
  unfold f_X7_readTest_L41 f_X7_readTest_L56 f_X7_readTest_L76 f_X7_readTest_L85
  rw [if_neg h, if_pos (show (0 : Int32) = 0 from rfl), if_neg (show ¬ v01 true = 0 by decide), h1, Option.bind_some, if_neg (show ¬ v01 true = 0 by decide)] <;> rfl
theorem r3_90f (N q : Nat) (rf : r3_RF) (k : r3_KF) (x n y z : Int32) {A A1 A2 : v_M} (h1 : f_X7_step N A = some (0, A1)) (h2 : rf x A1 = some (v01 false, A2)) : f_X7_readTest_L90 N q rf k x n y z A = some (0, A2) := by
  unfold f_X7_readTest_L90 f_X7_readTest_L119
  rw [h1, Option.bind_some]
  dsimp only
  rw [h2, Option.bind_some]
  dsimp only
  rw [if_pos (show v01 false = 0 from rfl), v_b0, v_ckT] <;> rfl
theorem r3_90o (N q : Nat) (rf : r3_RF) (k : r3_KF) (x n z : Int32) {A A1 A2 : v_M} (h1 : f_X7_step N A = some (0, A1)) (h2 : rf x A1 = some (v01 true, A2)) : f_X7_readTest_L90 N q rf k x n (v01 false) z A = k x z (n + 1) A2 := by
  unfold f_X7_readTest_L90 f_X7_readTest_L119
  rw [h1, Option.bind_some]
  dsimp only
  rw [h2, Option.bind_some]
  dsimp only
  rw [if_neg (show ¬ v01 true = 0 by decide), if_pos (show v01 false = 0 from rfl)] <;> rfl
theorem r3_90a (N q : Nat) (rf : r3_RF) (k : r3_KF) (x n z : Int32) {A A1 A2 A3 : v_M} (h1 : f_X7_step N A = some (0, A1)) (h2 : rf x A1 = some (v01 true, A2)) (h3 : f_X5_emit N q (-16 : Int32) A2 = some (0, A3)) : f_X7_readTest_L90 N q rf k x n (v01 true) z A = k x z (n + 1) A3 := by
  unfold f_X7_readTest_L90 f_X7_readTest_L119
  rw [h1, Option.bind_some]
  dsimp only
  rw [h2, Option.bind_some]
  dsimp only
  rw [if_neg (show ¬ v01 true = 0 by decide), if_neg (show ¬ v01 true = 0 by decide), h3, Option.bind_some] <;> rfl
theorem r3_14 (N q : Nat) (rf : r3_RF) (g : Nat) (x z : Int32) {n : Nat} (hn : n < 400) {A : v_M} (h : A.1 35 3 = (278 : Int32) ∨ A.1 35 3 = (277 : Int32)) : f_X7_readTest_L14 N q rf (g + 1) x z (nI n) A = f_X7_readTest_L41 N q rf (f_X7_readTest_L14 N q rf g) x z (nI n) A := by
  rw [f_X7_readTest_L14, if_neg (nI_400 hn)]
  by_cases k : A.1 35 3 = (278 : Int32)
  · rw [if_pos k]
  · rw [if_neg k, if_pos (h.resolve_left k)]
theorem r3_14e (N q : Nat) (rf : r3_RF) (g : Nat) (x z : Int32) {n : Nat} (hn : n < 400) {A : v_M} (h : ¬ A.1 35 3 = (278 : Int32)) (h' : ¬ A.1 35 3 = (277 : Int32)) : f_X7_readTest_L14 N q rf (g + 1) x z (nI n) A = f_X7_readTest_L125 N q rf z A := by
  rw [f_X7_readTest_L14, if_neg (nI_400 hn), if_neg h, if_neg h']
/-! an or, and the fact behind it -/
theorem r3_o {N : Nat} (hN : 1000 ≤ N) {q o : Nat} {c : Nat → Nat} {T K d : Nat} {rf : r3_RF} (hf : FactOK N q o c T K rf d) {S : List Nat} (h9 : S.head? ≠ some 9) (h10 : S.head? ≠ some 10) (h11 : S.head? ≠ some 11) (k : r3_KF) {n p v : Nat} {L : List Op} {A B : v_M} (hv : v ≤ 60) (hc : CR A q c T K p v L) (hp : PB B c T p) (hr : RC B o v L) (hx : RX B d S) (hS : S.length ≤ p) (hw : 3 * (L.length + Wn S) ≤ 6 * v + p) (hk : t_tk c T p = 277) :
    (∃ (A' B' : v_M) (m F : Nat), f_X7_readTest_L90 N q rf k (nI d) (nI n) (v01 false) (v01 true) A = some (0, A') ∧ A'.1 35 6 = nI F ∧ FB1 B' c T F ∧ m + p ≤ T + 1 ∧ ∀ n, LN N (n + m + 1) B = some (0, B')) ∨
    (∃ (A' B' : v_M) (X : List Op) (a p' m : Nat), f_X7_readTest_L90 N q rf k (nI d) (nI n) (v01 false) (v01 true) A = k (nI d) (v01 true) (nI (n + 1)) A' ∧ TruE X a ∧ v + a ≤ 60 ∧ CR A' q c T K p' (v + a) (L ++ X) ∧ PB B' c T p' ∧ RC B' o (v + a) (L ++ X) ∧ RX B' d (11 :: S) ∧ S.length + 1 ≤ p' ∧ p ≤ p' ∧ 3 * X.length + 3 ≤ 6 * a + (p' - p) ∧ m ≤ p' - p ∧ ∀ n, LN N (n + m + 1) B = LN N (n + 1) B') := by
  have hT := hc.2.2.1
  have hple := hc.ple
  obtain ⟨A1, a1, c1⟩ := e_step N hc
  obtain ⟨B1, e1, p1, r1, x1, hlt⟩ := LN_join hN hx (by omega) h9 h10 hr hp (Or.inr ⟨rfl, hk, h11⟩)
  have hg := t_nx_gt (c := c) hlt
  have hW : Wn (11 :: S) = Wn S := by rw [Wn, if_neg (by omega)]; omega
  obtain ⟨b, A2, a2, g1, g2⟩ := hf A1 B1 (t_nx c T p) v L (11 :: S) c1 p1.pb r1 hv x1 (by rw [List.length_cons]; omega) (by rw [hW]; omega)
  cases b with
  | false =>
    obtain ⟨B3, m3, F, eF, fb, hm, en⟩ := g2 rfl
    refine Or.inl ⟨A2, B3, m3 + 1, F, r3_90f N q rf k (nI d) (nI n) _ _ a1 a2, eF, fb, by omega, fun n => ?_⟩
    rw [show n + (m3 + 1) + 1 = (n + m3 + 1) + 1 by omega, e1]
    exact en n
  | true =>
    obtain ⟨B3, S3, a3, p3, m3, j3, c3, pb3, r3, x3, hv3, hp3, hl3, hm3, en3⟩ := g1 rfl
    have e90 := r3_90o N q rf k (nI d) (nI n) (v01 true) a1 a2
    rw [nI_1] at e90
    refine Or.inr ⟨A2, B3, S3, a3, p3, m3 + 1, e90, j3, hv3, c3, pb3, r3, x3, by omega, by omega, by omega, by omega, fun n => ?_⟩
    rw [show n + (m3 + 1) + 1 = (n + m3 + 1) + 1 by omega, e1]
    exact en3 n
/-! a turn -/
theorem r3_turn {N : Nat} (hN : 1000 ≤ N) {q o : Nat} {c : Nat → Nat} {T K d : Nat} {rf : r3_RF} (hf : FactOK N q o c T K rf d) {S : List Nat} (h9 : S.head? ≠ some 9) (h10 : S.head? ≠ some 10) (h11 : S.head? ≠ some 11) (k : r3_KF) {w : Bool} {n p v : Nat} {L : List Op} {A B : v_M} (hv : v ≤ 60) (hc : CR A q c T K p v L) (hp : PB B c T p) (hr : RC B o v L) (hx : RX B d (r3_S w S)) (hS : (r3_S w S).length ≤ p) (hw : 3 * (L.length + Wn S) + r3_g w ≤ 6 * v + p) (hk : t_tk c T p = 278 ∨ t_tk c T p = 277) :
    (∃ (A' B' : v_M) (m F : Nat), f_X7_readTest_L41 N q rf k (nI d) (v01 w) (nI n) A = some (0, A') ∧ A'.1 35 6 = nI F ∧ FB1 B' c T F ∧ m + p ≤ T + 1 ∧ ∀ n, LN N (n + m + 1) B = some (0, B')) ∨
    (∃ (A' B' : v_M) (w' : Bool) (X : List Op) (a p' m : Nat), f_X7_readTest_L41 N q rf k (nI d) (v01 w) (nI n) A = k (nI d) (v01 w') (nI (n + 1)) A' ∧ 1 ≤ a ∧ v + a ≤ 60 ∧ CR A' q c T K p' (v + a) (L ++ X) ∧ PB B' c T p' ∧ RC B' o (v + a) (L ++ X) ∧ RX B' d (r3_S w' S) ∧ (r3_S w' S).length ≤ p' ∧ p ≤ p' ∧ 3 * X.length + r3_g w' ≤ 6 * a + (p' - p) + r3_g w ∧ m ≤ p' - p ∧ (∀ n, LN N (n + m + 1) B = LN N (n + 1) B') ∧ ∀ S6 a6, r3_J w' S6 a6 → r3_J w (X ++ S6) (a + a6)) := by
  have hT := hc.2.2.1
  have hple := hc.ple
  have s78 := hc.sg (j := 278) (x := 278) (by omega) rfl
  have gt : r3_g true = 3 := rfl
  have gf : r3_g false = 0 := rfl
  by_cases k1 : t_tk c T p = 278
  · have e41 := r3_and N q rf k (nI d) (nI n) w (s78.mpr k1)
    obtain ⟨A1, a1, c1⟩ := e_step N hc
    obtain ⟨B1, e1, p1, r1, x1, hlt⟩ := LN_join hN hx (by omega) (r3_S_ne h9 (by omega) w) (r3_S_ne h10 (by omega) w) hr hp (Or.inl ⟨rfl, k1⟩)
    have hg := t_nx_gt (c := c) hlt
    have hW : Wn (10 :: r3_S w S) = Wn S := by rw [Wn, if_neg (by omega), r3_S_W]; omega
    obtain ⟨b, A2, a2, g1, g2⟩ := hf A1 B1 (t_nx c T p) v L (10 :: r3_S w S) c1 p1.pb r1 hv x1 (by rw [List.length_cons]; omega) (by rw [hW]; omega)
    cases b with
    | false =>
      obtain ⟨B3, m3, F, eF, fb, hm, en⟩ := g2 rfl
      refine Or.inl ⟨A2, B3, m3 + 1, F, e41.trans (r3_90f N q rf k (nI d) (nI n) _ _ a1 a2), eF, fb, by omega, fun n => ?_⟩
      rw [show n + (m3 + 1) + 1 = (n + m3 + 1) + 1 by omega, e1]
      exact en n
    | true =>
      obtain ⟨B3, S3, a3, p3, m3, j3, c3, pb3, r3, x3, hv3, hp3, hl3, hm3, en3⟩ := g1 rfl
      have ha3 := j3.1
      have hple3 := c3.ple
      have hlen : (L ++ S3).length = L.length + S3.length := List.length_append
      obtain ⟨A4, a4, c4⟩ := e_emit N c3 (by rw [hlen]; omega) (10, 0) (x := -16) rfl
      obtain ⟨B4, e4, p4, r4, x4⟩ := LN_and hN x3 (r3_S_ne h9 (by omega) w) (r3_S_ne h10 (by omega) w) r3 pb3 c3.sk (by rw [hlen]; omega)
      have eL : L ++ (S3 ++ [(10, 0)]) = L ++ S3 ++ [(10, 0)] := by simp
      have hX : (S3 ++ [((10, 0) : Op)]).length = S3.length + 1 := by rw [List.length_append]; rfl
      have e90 := r3_90a N q rf k (nI d) (nI n) (v01 w) a1 a2 a4
      rw [nI_1] at e90
      refine Or.inr ⟨A4, B4, w, S3 ++ [(10, 0)], a3, p3, m3 + 1, e41.trans e90, ha3, hv3, by rw [eL]; exact c4, ⟨p3, p4, c3.sk⟩, by rw [eL]; exact r4, x4, by omega, by omega, by rw [hX]; omega, by omega, fun n => ?_, fun S6 a6 h6 => r3_Jand j3 h6⟩
      have := en3 n
      dsimp only at this
      rw [show n + (m3 + 1) + 1 = (n + m3 + 1) + 1 by omega, e1, this, e4]
  · have k2 : t_tk c T p = 277 := hk.resolve_left k1
    have n78 : ¬ A.1 35 3 = (278 : Int32) := fun z => k1 (s78.mp z)
    cases w with
    | false =>
      have e41 := r3_or0 N q rf k (nI d) (nI n) n78
      have hS' : S.length ≤ p := hS
      rcases r3_o hN hf h9 h10 h11 k (n := n) hv hc hp hr hx hS' (by omega) k2 with ⟨A', B', m, F, z1, z2, z3, z4, z5⟩ | ⟨A', B', X, a, p', m, z1, j3, z2, z3, z4, z5, z6, z7, z8, z9, z10, z11⟩
      · exact Or.inl ⟨A', B', m, F, e41.trans z1, z2, z3, z4, z5⟩
      · exact Or.inr ⟨A', B', true, X, a, p', m, e41.trans z1, j3.1, z2, z3, z4, z5, z6, z7, z8, by omega, z10, z11, fun S6 a6 h6 => r3_Jor0 j3 h6⟩
    | true =>
      have hS' : S.length + 1 ≤ p := hS
      obtain ⟨A0, a0, c0⟩ := e_emit N hc (by omega) (11, 0) (x := -17) rfl
      obtain ⟨B0, e0, p0, r0, x0⟩ := LN_or hN (O := S) hx h9 h10 h11 hr hp hc.sk (by omega) k1
      have e41 := r3_or1 N q rf k (nI d) (nI n) n78 a0
      have hlen : (L ++ [((11, 0) : Op)]).length = L.length + 1 := by rw [List.length_append]; rfl
      rcases r3_o hN hf h9 h10 h11 k (n := n) hv c0 (⟨p, p0, hc.sk⟩ : PB B0 c T p) r0 x0 (by omega) (by rw [hlen]; omega) k2 with ⟨A', B', m, F, z1, z2, z3, z4, z5⟩ | ⟨A', B', X, a, p', m, z1, j3, z2, z3, z4, z5, z6, z7, z8, z9, z10, z11⟩
      · exact Or.inl ⟨A', B', m, F, e41.trans z1, z2, z3, z4, fun n => (e0 (n + m)).trans (z5 n)⟩
      · have eL : L ++ ([(11, 0)] ++ X) = L ++ [(11, 0)] ++ X := by simp
        have hX : ([((11, 0) : Op)] ++ X).length = X.length + 1 := by rw [List.length_append]; show 1 + X.length = _; omega
        exact Or.inr ⟨A', B', true, [(11, 0)] ++ X, a, p', m, e41.trans z1, j3.1, z2, by rw [eL]; exact z3, z4, by rw [eL]; exact z5, z6, z7, z8, by rw [hX]; omega, z10, fun n => (e0 (n + m)).trans (z11 n), fun S6 a6 h6 => r3_Jor1 j3 h6⟩
