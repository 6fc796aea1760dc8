theorem rel4 {n : Nat} {x : Int32} {a b a' b' : Nat → Int32} (h : ∀ i, i < n → b i = (a i).toInt8.toInt32 ∧ v_bt (a i) 0 255)
    (ha : ∀ i, a' i = if i = n + 3 then cb x 0 else if i = n + 2 then cb x 8 else if i = n + 1 then cb x 16 else if i = n then cb x 24 else a i)
    (hb : ∀ i, b' i = if i = n + 3 then mb x 0 else if i = n + 2 then mb x 8 else if i = n + 1 then mb x 16 else if i = n then mb x 24 else b i) : ∀ i, i < n + 4 → b' i = (a' i).toInt8.toInt32 ∧ v_bt (a' i) 0 255 := by
  intro i hi
  rw [ha, hb]
  by_cases c3 : i = n + 3
  · rw [if_pos c3, if_pos c3]; exact ⟨bt_eq 0 (by decide) x, cb_bt x 0⟩
  rw [if_neg c3, if_neg c3]
  by_cases c2 : i = n + 2
  · rw [if_pos c2, if_pos c2]; exact ⟨bt_eq 8 (by decide) x, cb_bt x 8⟩
  rw [if_neg c2, if_neg c2]
  by_cases c1 : i = n + 1
  · rw [if_pos c1, if_pos c1]; exact ⟨bt_eq 16 (by decide) x, cb_bt x 16⟩
  rw [if_neg c1, if_neg c1]
  by_cases c0 : i = n
  · rw [if_pos c0, if_pos c0]; exact ⟨bt_eq 24 (by decide) x, cb_bt x 24⟩
  rw [if_neg c0, if_neg c0]
  exact h i (by omega)
theorem st_feed {N : Nat} (hN : 5 ≤ N) (x1 x2 x3 x4 x5 : Int32) {M : v_M} {n : Nat} (h : J_tapec M n) : ∃ (r : Int32) (M1 M2 : v_M), f_X11_feed N x1 x2 x3 x4 x5 M = some (r, M1) ∧ f_X12_feed N x1 x2 x3 x4 x5 M1 = some (r, M2) ∧ (∃ n' : Nat, J_tapec M2 n') ∧ v_fr [37, 107] [(36, 0), (79, 32)] M M2 := by
  obtain ⟨hn, e1, e2, hb⟩ := id h
  obtain ⟨f, hf⟩ : ∃ f, N = f + 5 := ⟨N - 5, by omega⟩
  have le : (nI n + 20 ≤ 400) ↔ n + 20 ≤ 400 := by rw [show nI n + 20 = nI (n + 20) from nI_add n 20, show (400 : Int32) = nI 400 from rfl]; exact nI_leI (by omega) (by omega)
  unfold f_X11_feed f_X12_feed
  rw [e1]
  by_cases c : n + 20 ≤ 400
  · rw [if_pos (le.mpr c)]
    obtain ⟨A1, p1, q1, r1, s1⟩ := e_put9 N x1 (n := n) (by omega) f e1
    obtain ⟨A2, p2, q2, r2, s2⟩ := e_put9 N x2 (n := n + 4) (by omega) f r1
    obtain ⟨A3, p3, q3, r3, s3⟩ := e_put9 N x3 (n := n + 8) (by omega) f r2
    obtain ⟨A4, p4, q4, r4, s4⟩ := e_put9 N x4 (n := n + 12) (by omega) f r3
    obtain ⟨A5, p5, q5, r5, s5⟩ := e_put9 N x5 (n := n + 16) (by omega) f r4
    have qA : v_fr [37] [(36, 0)] M A5 := v_frT q1 (v_frT q2 (v_frT q3 (v_frT q4 q5)))
    have e3 : A5.1 79 32 = nI n := by rw [v_keepC qA 79 32 (by decide), e2]
    obtain ⟨B1, t1, u1, v1, w1⟩ := e_put12 N x1 (n := n) (by omega) f e3
    obtain ⟨B2, t2, u2, v2, w2⟩ := e_put12 N x2 (n := n + 4) (by omega) f v1
    obtain ⟨B3, t3, u3, v3, w3⟩ := e_put12 N x3 (n := n + 8) (by omega) f v2
    obtain ⟨B4, t4, u4, v4, w4⟩ := e_put12 N x4 (n := n + 12) (by omega) f v3
    obtain ⟨B5, t5, u5, v5, w5⟩ := e_put12 N x5 (n := n + 16) (by omega) f v4
    have qB : v_fr [107] [(79, 32)] A5 B5 := v_frT u1 (v_frT u2 (v_frT u3 (v_frT u4 u5)))
    refine ⟨nI (n + 20), A5, B5, ?_, ?_, ⟨n + 20, c, ?_, v5, ?_⟩, ?_⟩
    · unfold f_X9_put
      rw [← hf] at p1 p2 p3 p4 p5
      simp only [p1, p2, p3, p4, p5, Option.bind_some, r5]
    · unfold f_X12_put
      rw [← hf] at t1 t2 t3 t4 t5
      rw [e3, if_pos (le.mpr c)]
      simp only [t1, t2, t3, t4, t5, Option.bind_some, v5]
    · rw [v_keepC qB 36 0 (by decide), r5]
    · have b0 : A5.1 107 = M.1 107 := v_keepR qA 107 (by decide)
      have a0 : B5.1 37 = A5.1 37 := v_keepR qB 37 (by decide)
      rw [a0]
      have h0 : ∀ i, i < n → A5.1 107 i = (M.1 37 i).toInt8.toInt32 ∧ v_bt (M.1 37 i) 0 255 := by rw [b0]; exact hb
      exact rel4 (rel4 (rel4 (rel4 (rel4 h0 s1 w1) s2 w2) s3 w3) s4 w4) s5 w5
    · exact v_frT (v_frt (W := [37, 107]) (O := [(36, 0), (79, 32)]) (by decide) (by decide) v_frR qA) (v_frt (W := [37, 107]) (O := [(36, 0), (79, 32)]) (by decide) (by decide) v_frR qB)
  · rw [if_neg (fun q => c (le.mp q))]
    refine ⟨-1, M, M, rfl, ?_, ⟨n, h⟩, v_frR⟩
    rw [e2, if_neg (fun q => c (le.mp q))]
