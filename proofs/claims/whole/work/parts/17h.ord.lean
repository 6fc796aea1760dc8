/-! order: both answer alike -/
theorem ordEnd_bad {F : Nat} {B : v_M} (x1 x2 x3 : Int32) (h : B.1 79 34 = nI F) (hF : 0 < F ∧ F < 10000) : ordEnd x1 x2 x3 B = some ((-2 : Int32) - nI F, v_wr B 79 32 0) := by
  unfold ordEnd
  have e : (v_wr B 79 32 0).1 79 34 = nI F := by rw [v_rd, if_neg (by omega), h]
  rw [v_letE, e, if_neg (fun w => by have := (nI_leX (a := F) (b := 0) (by omega) (by omega)).mp w; omega)]
theorem ordEnd_ok {o : Nat} {B : v_M} (x1 x2 x3 : Int32) (h : B.1 79 34 = nI 0) (ho : o < 12) (h5 : B.1 79 35 = nI o) : ordEnd x1 x2 x3 B = some (nI o, v_wr (v_wr (v_wr (v_wr (v_wr B 79 32 0) 110 o x1) 111 o x2) 112 o x3) 79 35 (nI (o + 1))) := by
  unfold ordEnd
  have e : (v_wr B 79 32 0).1 79 34 = nI 0 := by rw [v_rd, if_neg (by omega), h]
  have e5 : (v_wr B 79 32 0).1 79 35 = nI o := by rw [v_rd, if_neg (by omega), h5]
  have e6 : (v_wr (v_wr B 79 32 0) 110 o x1).1 79 35 = nI o := by rw [v_rdn (by decide), e5]
  have e7 : (v_wr (v_wr (v_wr B 79 32 0) 110 o x1) 111 o x2).1 79 35 = nI o := by rw [v_rdn (by decide), e6]
  have e8 : (v_wr (v_wr (v_wr (v_wr B 79 32 0) 110 o x1) 111 o x2) 112 o x3).1 79 35 = nI o := by rw [v_rdn (by decide), e7]
  rw [v_letE, e, if_pos (show nI 0 ≤ 0 by decide), e5, v_ibN (show o < 12 by omega) (by omega), v_ckT, v_letE, nI_clamp (show o < 2 ^ 31 by omega), e6, v_ibN (show o < 12 by omega) (by omega), v_ckT, v_letE, nI_clamp (show o < 2 ^ 31 by omega), e7, v_ibN (show o < 12 by omega) (by omega), v_ckT, v_letE, nI_clamp (show o < 2 ^ 31 by omega), e8, v_letE, v_rdS, nI_1]
  exact congrArg some (Prod.ext (nI_subX (a := o + 1) (b := 1) (by omega)) rfl)
theorem ref_go (N : Nat) {X : v_M} {no d : Nat} {x1 x2 : Int32} (hn : no < 12) (e5 : X.1 79 35 = nI no) (e1 : X.1 79 1 = nI d) (a : 0 ≤ x1 ∧ x1 ≤ 2) (b : nI d ≤ x2 ∧ x2 ≤ 9999) : f_X12_order N x1 x2 X = f_X12_order_L69 N N x1 x2 (0 : Int32) (1 : Int32) (B0 X) := by
  unfold f_X12_order
  rw [e5, if_neg (fun w => by have := (nI_eqX (a := no) (b := 12) (by omega) (by omega)).mp w; omega), show (0 : Int64) = (0 : Int32).toInt64 from rfl, show (2 : Int64) = (2 : Int32).toInt64 from rfl, show (9999 : Int64) = (9999 : Int32).toInt64 from rfl, e_in2, Option.bind_some]
  dsimp only
  rw [v_wiTe a, e1, e_in2, Option.bind_some]
  dsimp only
  rw [v_wiTe b, v_letE, v_letE, v_letE, v_letE, v_letE]
  rfl
theorem ref_W : ∀ x ∈ [108, 109, 110, 111, 112, 113, 114, 115, 116, 117, 118, 119], x ∈ orW := by decide
theorem ref_O : ∀ x ∈ [(79, 32), (79, 33), (79, 34), (79, 35), (79, 36), (79, 37), (79, 38), (79, 39)], x ∈ orO := by decide
theorem fr_ref {A B : v_M} (h : v_fr [108, 109, 110, 111, 112, 113, 114, 115, 116, 117, 118, 119] [(79, 32), (79, 33), (79, 34), (79, 35), (79, 36), (79, 37), (79, 38), (79, 39)] A B) : ∀ n qo, oKp n qo A B := fun n qo => ⟨fun k j _ _ h1 h2 => h.1 k j (fun w => h1 (ref_W k w)) (fun w => h2 (ref_O _ w)), fun k _ _ h1 => h.2 k (fun w => h1 (ref_W k w))⟩
theorem oKp.t {n qo : Nat} {A B C : v_M} (h : oKp n qo A B) (k : oKp n qo B C) : oKp n qo A C := ⟨fun c j h1 h2 h3 h4 => (k.1 c j h1 h2 h3 h4).trans (h.1 c j h1 h2 h3 h4), fun c h1 h2 h3 => (k.2 c h1 h2 h3).trans (h.2 c h1 h2 h3)⟩
theorem cls_W {qo k : Nat} (h2 : k < qo ∨ qo + 6 < k) (h3 : k ∉ orW) : k ∉ [38, 39, 40, (qo + 1), (qo + 2), (qo + 3), (qo + 4), (qo + 5), (qo + 6)] := by
  intro w
  simp only [List.mem_cons, List.not_mem_nil, or_false] at w
  rcases w with w | w | w | w | w | w | w | w | w
  · exact h3 (by rw [w]; decide)
  · exact h3 (by rw [w]; decide)
  · exact h3 (by rw [w]; decide)
  all_goals (clear h3; omega)
theorem cls_O {qo k j : Nat} (h2 : k < qo ∨ qo + 6 < k) (h4 : (k, j) ∉ orO) : (k, j) ∉ [(35, 2), (35, 3), (35, 4), (35, 5), (35, 6), (36, 1), (36, 2), (qo, 2), (qo, 3)] := by
  intro w
  simp only [List.mem_cons, List.not_mem_nil, or_false, Prod.mk.injEq] at w
  rcases w with w | w | w | w | w | w | w | w | w
  · exact h4 (by rw [w.1, w.2]; decide)
  · exact h4 (by rw [w.1, w.2]; decide)
  · exact h4 (by rw [w.1, w.2]; decide)
  · exact h4 (by rw [w.1, w.2]; decide)
  · exact h4 (by rw [w.1, w.2]; decide)
  · exact h4 (by rw [w.1, w.2]; decide)
  · exact h4 (by rw [w.1, w.2]; decide)
  all_goals (clear h4; omega)
theorem oKp_c {qo : Nat} {A B : v_M} (h : v_fr [38, 39, 40, (qo + 1), (qo + 2), (qo + 3), (qo + 4), (qo + 5), (qo + 6)] [(35, 2), (35, 3), (35, 4), (35, 5), (35, 6), (36, 1), (36, 2), (qo, 2), (qo, 3)] A B) (n : Nat) : oKp n qo A (v_wr B 36 0 0) := by
  refine ⟨fun k j _ h2 h3 h4 => ?_, fun k _ h2 h3 => h.2 k (cls_W h2 h3)⟩
  rw [v_rd, if_neg (fun w => h4 (by rw [w.1, w.2]; decide))]
  exact h.1 k j (cls_W h2 h3) (cls_O h2 h4)
