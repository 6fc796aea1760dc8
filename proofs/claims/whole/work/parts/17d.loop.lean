/-! the clauses of an order, one behind the other: both alike -/
def ordEnd (x1 x2 x3 : Int32) (M : v_M) : Option (Int32 × v_M) := v_let (v_wr M 79 32 (0 : Int32)) fun M1 => if (M1.1 79 34) ≤ 0 then (v_ck (v_ib (M1.1 79 35) 12) <| v_let (v_wr M1 110 (M1.1 79 35).toNatClampNeg x1) fun M2 => v_ck (v_ib (M2.1 79 35) 12) <| v_let (v_wr M2 111 (M2.1 79 35).toNatClampNeg x2) fun M3 => v_ck (v_ib (M3.1 79 35) 12) <| v_let (v_wr M3 112 (M3.1 79 35).toNatClampNeg x3) fun M4 => v_let (v_wr M4 79 35 ((M4.1 79 35) + (1 : Int32))) fun M5 => some (((M5.1 79 35) - (1 : Int32)), M5)) else (some (((-2 : Int32) - (M1.1 79 34)), M1))
theorem L69_0 (N n : Nat) (x1 x2 x3 : Int32) (M : v_M) : f_X12_order_L69 N (n + 1) x1 x2 x3 0 M = ordEnd x1 x2 x3 M := by
  rw [f_X12_order_L69, if_pos rfl]
  rfl
def ordT (N : Nat) (k : Int32 → Int32 → Int32 → Int32 → v_M → Option (Int32 × v_M)) (x1 x2 x3 : Int32) (M : v_M) : Option (Int32 × v_M) := if (M.1 79 34) = 0 then (if (M.1 79 32) ≤ (M.1 79 33) then (f_X12_order_L122 N k x1 x2 x3 M) else ((f_X12_sign N M).bind fun z8 => if z8.1 = (59 : Int32) then (f_X12_order_L122 N k x1 x2 x3 z8.2) else ((f_X12_fails N (0 : Int32) (z8.2.1 79 33) z8.2).bind fun z9 => f_X12_order_L122 N k x1 x2 x3 z9.2))) else (f_X12_order_L122 N k x1 x2 x3 M)
theorem L69_1 (N n : Nat) (x1 x2 x3 : Int32) (M : v_M) : f_X12_order_L69 N (n + 1) x1 x2 x3 1 M = (f_X12_clause N x3 M).bind fun z6 => (f_X12_blanks N z6.2).bind fun z7 => ordT N (f_X12_order_L69 N n) x1 x2 (x3 + (1 : Int32)) z7.2 := by
  rw [f_X12_order_L69, if_neg (by decide)]
  rfl
theorem l122_0 (N : Nat) (k : Int32 → Int32 → Int32 → Int32 → v_M → Option (Int32 × v_M)) (x1 x2 x3 : Int32) (M : v_M) (h : ¬ M.1 79 34 = 0 ∨ M.1 79 32 ≤ M.1 79 33) : f_X12_order_L122 N k x1 x2 x3 M = k x1 x2 x3 0 (v_wr M 79 33 (M.1 79 33 + 1)) := by
  unfold f_X12_order_L122 f_X12_order_L144 f_X12_order_L145
  by_cases e : M.1 79 34 = 0
  · have h' : M.1 79 32 ≤ M.1 79 33 := h.resolve_left (fun w => w e)
    rw [if_pos e, if_pos h', v_letE]
  · rw [if_neg e, v_letE]
theorem l122_1 (N : Nat) (k : Int32 → Int32 → Int32 → Int32 → v_M → Option (Int32 × v_M)) (x1 x2 x3 : Int32) (M : v_M) (h : M.1 79 34 = 0) (h2 : ¬ M.1 79 32 ≤ M.1 79 33) : f_X12_order_L122 N k x1 x2 x3 M = k x1 x2 x3 1 (v_wr M 79 33 (M.1 79 33 + 1)) := by
  unfold f_X12_order_L122 f_X12_order_L144 f_X12_order_L145
  rw [if_pos h, if_neg h2, v_letE]
def LSt (A B : v_M) (q o : Nat) (c : Nat → Nat) (T K n p v : Nat) (L : List Op) : Prop := CR A q c T K p v L ∧ PB B c T p ∧ RC B o v L ∧ B.1 79 37 = 0 ∧ v ≤ 60 ∧ 3 * L.length ≤ 6 * v + p ∧ ∀ j, j < n → CL A B q (12 * o + j) j L
def LEn (A B : v_M) (q o m F : Nat) : Prop := B.1 79 34 = nI F ∧ F < 10000 ∧ (F = 0 → 1 ≤ m ∧ m ≤ 12 ∧ A.1 q 2 = nI m ∧ ∃ (L : List Op) (v : Nat), L.length ≤ 300 ∧ A.1 q 3 = nI L.length ∧ (∀ i op, L[i]? = some op → A.1 (q + 6) i = cod op) ∧ RC B o v L ∧ ∀ j, j < m → CL A B q (12 * o + j) j L)
theorem s_turn {N : Nat} (hN : 1000 ≤ N) {q o n : Nat} {c : Nat → Nat} {T K p v : Nat} {L : List Op} {A B : v_M} (h : LSt A B q o c T K n p v L) (hn : n ≤ 12) : ∃ A' B' : v_M, Z o B B' ∧ ((∃ F, (∀ f, f_X7_compile_L35 N q (f + 1) (nI n) A = some (nI F, A')) ∧ (∀ g x1 x2, f_X12_order_L69 N (g + 2) x1 x2 (nI n) 1 B = ordEnd x1 x2 (nI (n + 1)) B') ∧ LEn A' B' q o (n + 1) F) ∨ (n < 12 ∧ (∀ f, f_X7_compile_L35 N q (f + 1) (nI n) A = f_X7_compile_L35 N q f (nI (n + 1)) A') ∧ (∀ g x1 x2, f_X12_order_L69 N (g + 1) x1 x2 (nI n) 1 B = f_X12_order_L69 N g x1 x2 (nI (n + 1)) 1 B') ∧ ∃ (p' v' : Nat) (L' : List Op), LSt A' B' q o c T K (n + 1) p' v' L')) := by
  obtain ⟨hc, hp, hr, h7, hv, hw, hcl⟩ := h
  have hq := hc.1
  have hT := hc.2.2.1
  obtain ⟨b, A1, B1, a1, b1, ok, bad⟩ := s_clause hN hc hp hr h7 hn hv hw
  have zb : Z o B B1 := zr_X12_clause ⟨n, rfl, hn⟩ b1
  have n12 : ¬ (12 : Int32) < nI n := fun w => by have := (nI_ltX (a := 12) (b := n) (by omega) (by omega)).mp w; omega
  have en : nI n + 1 = nI (n + 1) := nI_1 n
  cases b with
  | false =>
    obtain ⟨F, eF, tr, hF, eB, p', hp', ep⟩ := bad rfl
    obtain ⟨B2, b2, f2, e2⟩ := e_rBlanks hN tr (by omega) ep
    have g2 : B2.1 79 34 = nI F := by rw [v_keepC f2 79 34 (by decide), eB]
    have nz : ¬ B2.1 79 34 = 0 := by rw [g2]; exact nI_nz hF
    refine ⟨A1, v_wr B2 79 33 (B2.1 79 33 + 1), Z.wo (by decide) (Z.T zb (Z.of (by decide) f2)), Or.inl ⟨F, fun f => ?_, fun g x1 x2 => ?_, by rw [v_rd, if_neg (by omega), g2], by omega, fun w => ?_⟩⟩
    · rw [f_X7_compile_L35, if_neg n12, a1, Option.bind_some]
      dsimp only
      rw [v01_0, if_neg (by decide), eF]
    · rw [L69_1, b1, Option.bind_some]
      dsimp only
      rw [b2, Option.bind_some]
      dsimp only
      unfold ordT
      rw [if_neg nz, l122_0 _ _ _ _ _ _ (Or.inl nz), L69_0, en]
    · omega
  | true =>
    obtain ⟨h12, S, a, p', c1, q1, r1, g7, hv1, hpp, hw1, cl1, eq2, kr, kb⟩ := ok rfl
    obtain ⟨B2, b2, f2, p2⟩ := s_blanks hN q1
    have r2 := r1.fp f2
    have hcl1 : ∀ j, j < n + 1 → CL A1 B2 q (12 * o + j) j (L ++ S) := by
      intro j hj
      have k2 : ∀ k, 113 ≤ k → k ≤ 118 → B2.1 k (12 * o + j) = B1.1 k (12 * o + j) := fun k k1 k2 => f2.1 k _ (by simp) (by simp; omega)
      by_cases e : j = n
      · subst e
        exact cl1.fr (fun i _ _ => rfl) k2
      · exact ((hcl j (by omega)).app S).fr (fun i i1 i5 => kr i j i1 i5 e) (fun k k1 k3 => (k2 k k1 k3).trans (kb k _ k1 k3 (by omega)))
    have hple := c1.ple
    have tb := c1.tk
    have le : (B2.1 79 32 ≤ B2.1 79 33) ↔ T ≤ p' := by rw [p2.1.2.2.1, p2.2.2]; exact nI_leX (by omega) (by omega)
    have s59 := c1.sg (j := 59) (x := 59) (by omega) rfl
    have sg := t_sgn (c := c) (T := T) (p := p') (k := 59) (x := 59) c1.2.1 (by omega) rfl rfl (by omega) (by omega) rfl
    have hlen : (L ++ S).length ≤ 300 := by omega
    have sm : (A1.1 35 3 = -1) ↔ T ≤ p' := by
      rw [c1.2.2.2.2.2.1, ← t_tk_end c1.2.1, t_sI]
      by_cases e : t_tk c T p' = 999
      · rw [if_pos e]; exact ⟨fun _ => e, fun _ => rfl⟩
      · rw [if_neg e]; exact ⟨fun w => absurd w (nI_nm1 (by omega)), fun w => absurd w e⟩
    by_cases e : T ≤ p'
    · refine ⟨A1, v_wr B2 79 33 (B2.1 79 33 + 1), Z.wo (by decide) (Z.T zb (Z.of (by decide) f2)), Or.inl ⟨0, fun f => ?_, fun g x1 x2 => ?_, by rw [v_rd, if_neg (by omega), r2.1]; rfl, by omega, fun _ => ⟨by omega, by omega, eq2, L ++ S, v + a, hlen, c1.2.2.2.2.2.2.2.2.2.1, c1.2.2.2.2.2.2.2.2.2.2, ?_, fun j hj => (hcl1 j hj).fr (fun _ _ _ => rfl) (fun k _ _ => by rw [v_rdn (by omega)])⟩⟩⟩
      · rw [f_X7_compile_L35, if_neg n12, a1, Option.bind_some]
        dsimp only
        rw [v01_0, if_pos rfl, if_pos (sm.mpr e), c1.2.2.2.2.2.2.2.2.1]
        rfl
      · rw [L69_1, b1, Option.bind_some]
        dsimp only
        rw [b2, Option.bind_some]
        dsimp only
        unfold ordT
        rw [if_pos r2.1, if_pos (le.mpr e), l122_0 _ _ _ _ _ _ (Or.inr (le.mpr e)), L69_0, en]
      · exact r2.fp (v_fro (by simp) v_frR)
    · have es := e_sign N p2.1 (by omega) p2.2.2
      by_cases e9 : t_tk c T p' = 59
      · obtain ⟨A3, a3, c3⟩ := e_step N c1
        have fB : v_fr [] [(79, 33)] B2 (v_wr B2 79 33 (B2.1 79 33 + 1)) := v_fro (by simp) v_frR
        have nx := nx_one (sg.2 e9).2
        refine ⟨A3, v_wr B2 79 33 (B2.1 79 33 + 1), Z.wo (by decide) (Z.T zb (Z.of (by decide) f2)), Or.inr ⟨h12, fun f => ?_, fun g x1 x2 => ?_, t_nx c T p', v + a, L ++ S, c3, ?_, r2.fp fB, by rw [v_rd, if_neg (by omega), v_keepC f2 79 37 (by decide), g7], hv1, ?_, fun j hj => ?_⟩⟩
        · rw [f_X7_compile_L35, if_neg n12, a1, Option.bind_some]
          dsimp only
          rw [v01_0, if_pos rfl, if_neg (fun w => e (sm.mp w)), if_pos (s59.mpr e9), a3, Option.bind_some]
          dsimp only
          rw [en]
        · rw [L69_1, b1, Option.bind_some]
          dsimp only
          rw [b2, Option.bind_some]
          dsimp only
          unfold ordT
          rw [if_pos r2.1, if_neg (fun w => e (le.mp w)), es, Option.bind_some]
          dsimp only
          rw [if_pos (sg.1.mpr e9), l122_1 _ _ _ _ _ _ r2.1 (fun w => e (le.mp w)), en]
        · exact ⟨p' + 1, ⟨p2.1.fp fB, by omega, by rw [v_rdS, p2.2.2, nI_1]⟩, nx.symm⟩
        · have := t_nx_gt (c := c) (T := T) (p := p') (by omega)
          omega
        · exact (hcl1 j hj).fr (fun i i1 i5 => kf_step (W := []) hq a3 i j i1 i5 (by simp)) (fun k _ _ => by rw [v_rdn (by omega)])
      · obtain ⟨A3, a3, g3⟩ := e_fail N c1 0 (x := 0) rfl
        obtain ⟨B3, b3, fb3⟩ := e_bad N r2 p2 (p' := p') (w := 0) hple (by omega) (x := 0) (y := B2.1 79 33) rfl p2.2.2
        have nz : ¬ B3.1 79 34 = 0 := by rw [fb3.2.2.1]; exact nI_nz fb3.2.1
        refine ⟨A3, v_wr B3 79 33 (B3.1 79 33 + 1), Z.wo (by decide) (Z.T (Z.T zb (Z.of (by decide) f2)) (Z.of (by decide) (fr_X12_fails b3))), Or.inl ⟨1 + 8 * p' + 0, fun f => ?_, fun g x1 x2 => ?_, by rw [v_rd, if_neg (by omega), fb3.2.2.1], by omega, fun w => ?_⟩⟩
        · rw [f_X7_compile_L35, if_neg n12, a1, Option.bind_some]
          dsimp only
          rw [v01_0, if_pos rfl, if_neg (fun w => e (sm.mp w)), if_neg (fun w => e9 (s59.mp w)), a3, Option.bind_some]
          dsimp only
          rw [g3]
        · rw [L69_1, b1, Option.bind_some]
          dsimp only
          rw [b2, Option.bind_some]
          dsimp only
          unfold ordT
          rw [if_pos r2.1, if_neg (fun w => e (le.mp w)), es, Option.bind_some]
          dsimp only
          rw [if_neg (fun w => e9 (sg.1.mp w)), b3, Option.bind_some]
          dsimp only
          rw [l122_0 _ _ _ _ _ _ (Or.inl nz), L69_0, en]
        · omega
theorem s_loop {N : Nat} (hN : 1000 ≤ N) {q o : Nat} {c : Nat → Nat} {T K : Nat} : ∀ (d n p v : Nat) (L : List Op) (A B : v_M), n + d = 12 → LSt A B q o c T K n p v L → ∃ (A' B' : v_M) (F m : Nat), Z o B B' ∧ (∀ f, f_X7_compile_L35 N q (f + d + 1) (nI n) A = some (nI F, A')) ∧ (∀ g x1 x2, f_X12_order_L69 N (g + d + 2) x1 x2 (nI n) 1 B = ordEnd x1 x2 (nI m) B') ∧ LEn A' B' q o m F := by
  intro d
  induction d with
  | zero =>
    intro n p v L A B hn h
    obtain ⟨A', B', z, ⟨F, a, b, e⟩ | ⟨w, _⟩⟩ := s_turn hN h (by omega)
    · exact ⟨A', B', F, n + 1, z, a, b, e⟩
    · omega
  | succ d ih =>
    intro n p v L A B hn h
    obtain ⟨A', B', z, ⟨F, a, b, e⟩ | ⟨w, a, b, p', v', L', h'⟩⟩ := s_turn hN h (by omega)
    · refine ⟨A', B', F, n + 1, z, fun f => ?_, fun g x1 x2 => ?_, e⟩
      · exact a (f + (d + 1))
      · exact b (g + (d + 1)) x1 x2
    · obtain ⟨A2, B2, F, m, z2, a2, b2, e2⟩ := ih (n + 1) p' v' L' A' B' (by omega) h'
      refine ⟨A2, B2, F, m, Z.T z z2, fun f => ?_, fun g x1 x2 => ?_, e2⟩
      · exact (a (f + (d + 1))).trans (a2 f)
      · exact (b (g + (d + 1) + 1) x1 x2).trans (b2 g x1 x2)
