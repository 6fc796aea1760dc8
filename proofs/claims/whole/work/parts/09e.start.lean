/-- fuel: more than any loop runs -/
def v_Nf : Nat := 100000
/-! the law's beginning: the two objects are made -/
def z_0 : v_Z := ([], fun _ _ => none, (fun _ _ => 0, fun _ _ => 0))
def z_A : v_Z := g_X11 0 1 (z_new 0 11 0 z_0)
def z_B : v_Z := g_X12 79 80 (z_new 0 12 79 z_A)
def z_M : v_M := v_fil z_B.2.2 143 480 (-1)
theorem z_Alen : z_A.1.length = 79 := by unfold z_A; rw [a_X11]; rfl
set_option maxRecDepth 100000 in
theorem z_Bsh : z_B.1 = v_ls := by
  unfold z_B
  rw [a_X12]
  show (z_A.1 ++ [(0, 12)]) ++ _ = _
  unfold z_A
  rw [a_X11]
  rfl
def v_lpl : List (Nat × Nat × Nat) := [(0, 2, 1), (0, 3, 11), (0, 4, 18), (0, 5, 29), (0, 6, 35), (0, 7, 48), (0, 8, 49), (0, 9, 52), (0, 10, 64), (0, 11, 71), (0, 12, 77), (0, 13, 78), (1, 1, 2), (1, 2, 3), (1, 3, 4), (1, 4, 5), (1, 5, 6), (1, 6, 7), (1, 7, 8), (1, 8, 9), (1, 9, 10), (11, 1, 12), (11, 2, 13), (11, 3, 14), (11, 4, 15), (11, 5, 16), (11, 6, 17), (18, 0, 19), (18, 1, 20), (18, 2, 21), (18, 3, 22), (18, 4, 23), (18, 5, 24), (18, 6, 25), (18, 7, 26), (18, 8, 27), (18, 9, 28), (29, 1, 30), (29, 2, 31), (29, 3, 32), (29, 4, 33), (29, 5, 34), (35, 0, 36), (36, 3, 37), (36, 4, 38), (36, 5, 39), (36, 6, 40), (41, 4, 42), (41, 5, 43), (41, 6, 44), (41, 7, 45), (41, 8, 46), (41, 9, 47), (49, 6, 50), (49, 7, 51), (52, 1, 53), (52, 2, 54), (52, 3, 55), (52, 4, 56), (52, 5, 57), (52, 6, 58), (52, 7, 59), (52, 8, 60), (52, 10, 61), (52, 11, 62), (52, 12, 63), (64, 1, 65), (64, 2, 66), (64, 3, 67), (64, 4, 68), (64, 5, 69), (64, 6, 70), (71, 1, 72), (71, 2, 73), (71, 3, 74), (71, 4, 75), (71, 5, 76), (79, 4, 80), (79, 5, 81), (79, 6, 82), (79, 7, 83), (79, 8, 84), (79, 9, 85), (79, 10, 86), (79, 11, 87), (79, 12, 88), (79, 13, 89), (79, 14, 90), (79, 15, 91), (79, 16, 92), (79, 17, 93), (79, 18, 94), (79, 19, 95), (79, 20, 96), (79, 21, 97), (79, 22, 98), (79, 23, 99), (79, 24, 100), (79, 26, 101), (79, 27, 102), (79, 28, 103), (79, 29, 104), (79, 30, 105), (79, 31, 106), (79, 40, 107), (79, 41, 108), (79, 42, 109), (79, 43, 110), (79, 44, 111), (79, 45, 112), (79, 46, 113), (79, 47, 114), (79, 48, 115), (79, 49, 116), (79, 50, 117), (79, 51, 118), (79, 52, 119), (79, 53, 120), (79, 54, 121), (79, 62, 122), (79, 63, 123), (79, 64, 124), (79, 65, 125), (79, 66, 126), (79, 67, 127), (79, 68, 128), (79, 69, 129), (79, 70, 130), (79, 71, 131), (79, 72, 132), (79, 73, 133), (79, 74, 134), (79, 75, 135), (79, 76, 136), (79, 77, 137), (79, 78, 138), (79, 79, 139), (79, 81, 140), (79, 82, 141), (79, 83, 142), (79, 84, 143), (79, 85, 144), (79, 86, 145), (79, 87, 146), (79, 88, 147), (79, 89, 148), (79, 90, 149)]
set_option maxRecDepth 100000 in
set_option maxHeartbeats 4000000 in
theorem v_lpl_in {k j q : Nat} (h : v_lp k j = some q) : (k, j, q) ∈ v_lpl := by
  unfold v_lp at h
  split at h <;> (try dsimp only at h) <;> (try split at h) <;> first | (cases h; done) | (have h := Option.some.inj h; subst h; decide +kernel)
set_option maxRecDepth 100000 in
theorem z_BP : ∀ t ∈ v_lpl, z_B.2.1 t.1 t.2.1 = some t.2.2 := by decide +kernel
theorem z_Blay : v_Lay z_B.1 z_B.2.1 := ⟨fun k q h => by rw [z_Bsh]; exact h, fun k j q h => z_BP _ (v_lpl_in h)⟩
theorem e_initL (N : Nat) (M : v_M) : ∀ (k i : Nat), i ≤ 480 → 480 - i < k → f_X12_init_L593 N k (nI i) (v_row M 143 (fun j => if j < i then -1 else M.1 143 j)) = some (0, v_fil M 143 480 (-1)) := by
  intro k
  induction k with
  | zero => intro i _ h; omega
  | succ k ih =>
    intro i hi hk
    rw [f_X12_init_L593]
    by_cases h : i = 480
    · subst h
      rw [if_pos (by decide)]; rfl
    · have hlt : i < 480 := by omega
      rw [if_neg (show ¬ (480 : Int32) ≤ nI i from nI_ge (b := 480) hlt (by decide))]
      simp only [v_ck, v_let, v_ibN hlt (by decide), cond_true, nI_clamp (show i < 2 ^ 31 by omega), v_wr_row]
      rw [show nI i + 1 = nI (i + 1) from nI_1 i]
      have e : upd (fun j => if j < i then -1 else M.1 143 j) i (-1) = fun j => if j < i + 1 then -1 else M.1 143 j := by
        funext j
        unfold upd
        by_cases h1 : j = i
        · simp [h1]
        · by_cases h2 : j < i
          · simp [h1, h2, show j < i + 1 by omega]
          · simp [h1, h2, show ¬ j < i + 1 by omega]
      rw [e]
      exact ih (i + 1) (by omega) (by omega)
theorem e_init (M : v_M) : f_X12_init_L593 1000 1000 0 M = some (0, v_fil M 143 480 (-1)) := by
  have h := e_initL 1000 M 1000 0 (by omega) (by omega)
  rw [show v_row M 143 (fun j => if j < 0 then -1 else M.1 143 j) = M from by simp [v_row_self]] at h
  exact h
set_option maxHeartbeats 4000000 in
set_option maxRecDepth 100000 in
theorem law_start {I : v_S → v_P → v_M → Prop} (hI : v_Good v_Nf I) (h0 : I z_B.1 z_B.2.1 z_M) {E : v_E} {X : v_X} {bb L : Nat} {xs : Nat → Int32} (hK : v_K E X cL_law RL 4 1300) (hS : v_Sc E X bb L xs) (hL4 : L ≤ 4096) (hend : ∀ (b : Nat × Nat) (i : Nat) (sh : v_S) (P : v_P) (M : v_M), V E X b 1638 [(0, .ref bb), (1, v_rf E 0), (2, v_rf E 79), (3, .int (nI i))] [] sh P M) :
    V E X (3734, 1039021) 0 [(0, .ref bb)] [] z_0.1 z_0.2.1 z_0.2.2 := by
  refine V.new (pc := 0) (ci := 11) (n := 14) (b1 := 3733) (b2 := 1039007) hK (by decide) rfl tw_22 tw_23 tw_1 dL_law_0 ?_
  refine V.nmZ (z_new 0 11 0 z_0) rfl rfl rfl (fun s1 e1 => ?_)
  subst e1
  refine V.dup (pc := 3) hK rfl dL_law_3 ?_
  refine V.cI (pc := 4) (mc := 78) (ms := 8401) hK (c_X11_init E 0 1 _ rfl rfl) Y_X11_init ci_RL_9 dL_law_4 (by decide) rfl (Nat.le_of_ble_eq_true rfl) (by decide) ?_
  refine V.nmZ z_A rfl rfl rfl (fun sA eA => ?_)
  subst eA
  refine V.astore_n (pc := 7) (i := 1) (lv' := [(0, _), (1, _)]) hK ⟨_, rfl⟩ (by decide) rfl dL_law_7 ?_
  refine V.bud (3654 + 1, 1030513 + 93) (by decide) ?_
  refine V.new (pc := 8) (ci := 12) (n := 93) (b1 := 3654) (b2 := 1030513) hK (by decide) rfl tw_1114 tw_1115 tw_14 dL_law_8 ?_
  rw [z_Alen]
  refine V.nmZ (z_new 0 12 79 z_A) rfl rfl rfl (fun s2 e2 => ?_)
  have hq : s2.1[79]? = some (0, 12) := by rw [e2]; exact v_apn z_Alen
  have hn : s2.1.length = 80 := by rw [e2]; exact v_al (n := 79) (c := 0) z_Alen
  subst e2
  refine V.dup (pc := 11) hK rfl dL_law_11 ?_
  refine V.callI (pc := 12) (mc := 70) (ms := 23409) (rest := [v_rf E 79]) hK (c_X12_init E 80 _ hq hn z_Blay 1000 (e_init _)) Y_X12_init ci_RL_12 dL_law_12 (by decide) rfl (Nat.le_of_ble_eq_true rfl) (by decide) (fun v s p mm hv => ?_)
  obtain ⟨rfl, rfl, rfl, rfl⟩ := hv
  refine V.astore_n (pc := 15) (i := 2) (lv' := [(0, _), (1, _), (2, _)]) hK ⟨_, rfl⟩ (by decide) rfl dL_law_15 ?_
  refine V.iconst (pc := 16) (v := 0) hK (by decide) dL_law_16 ?_
  refine V.istore_n (pc := 17) (i := 3) (lv' := [(0, _), (1, _), (2, _), (3, _)]) hK (by decide) rfl dL_law_17 ?_
  refine V.bud (7 * 512, 1967 * 512) (by decide) ?_
  exact law_loop hI hK hS hL4 hend 512 0 _ _ _ (by omega) (by omega) h0
