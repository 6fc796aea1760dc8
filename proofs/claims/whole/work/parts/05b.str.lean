/-! String constants: length and charAt, by the JDK's own code -/
theorem v_wS {E : v_E} {X : v_X} {cc : ByteArray} {own : String} {nL d : Nat} (hK : v_K E X cc own nL d) {i : Nat} (hi : i < 21) : va_OF "java/lang/String" "coder" "B" (.int 0) (E.2.2.2.2.1 i) (fun q => v_o E ≤ q) X.2.2.2.1 E.2.2.2.1 ∧ va_OF "java/lang/String" "value" "[B" (.ref (E.2.2.2.2.2 i)) (E.2.2.2.2.1 i) (fun q => v_o E ≤ q) X.2.2.2.1 E.2.2.2.1 ∧ va_T .byte (E.2.2.2.2.2 i) (v_sn.getD i 0) (fun j => .int ((v_sb.getD i []).getD j 0)) (fun q => v_o E ≤ q) X.2.2.2.1 E.2.2.2.1 := (hK.2.2.2.2.1.2.2.2.2.1.1 i hi).2
theorem c_J0_coder (E : v_E) (sh : v_S) (P : v_P) (M : v_M) {i : Nat} (hi : i < 21) : v_Ct E 0 yJ0_coder_7d493 cJ0_coder_7d493 1 (some .byte) 0 0 [v_st E i] sh P M (v_Q1 (some (.int 0)) sh P M) := by
  refine v_Ct.of (by decide +kernel) (Nat.le_of_ble_eq_true rfl) (fun X hO => ?_)
  have hK : v_K E X cJ0_coder_7d493 RJ0 1 0 := hO.1
  show V E X (0, 0) 0 [(0, v_st E i)] [] sh P M
  refine V.getCS (pc := 0) hK tw_782 dJ0_coder_7d493_0 ?_
  refine V.if_eq (pc := 3) (tgt := 13) hK dJ0_coder_7d493_3 (by decide) (fun c => absurd c (by decide)) (fun c => ?_)
  refine V.aload_n (pc := 6) (i := 0) hK rfl ⟨_, rfl⟩ dJ0_coder_7d493_6 ?_
  refine V.getStr (pc := 7) hK (v_wS hK hi).1 tw_1803 dJ0_coder_7d493_7 ?_
  refine V.goto (pc := 10) (tgt := 14) hK dJ0_coder_7d493_10 (by decide) ?_
  exact V.zret (pc := 14) hO rfl dJ0_coder_7d493_14 ⟨rfl, rfl, rfl, rfl⟩
theorem c_J0_isLatin1 (E : v_E) (sh : v_S) (P : v_P) (M : v_M) {i : Nat} (hi : i < 21) : v_Ct E 0 yJ0_isLatin1_aae02 cJ0_isLatin1_aae02 1 (some .boolean) 0 0 [v_st E i] sh P M (v_Q1 (some (.int 1)) sh P M) := by
  refine v_Ct.of (by decide +kernel) (Nat.le_of_ble_eq_true rfl) (fun X hO => ?_)
  have hK : v_K E X cJ0_isLatin1_aae02 RJ0 1 0 := hO.1
  show V E X (0, 0) 0 [(0, v_st E i)] [] sh P M
  refine V.getCS (pc := 0) hK tw_782 dJ0_isLatin1_aae02_0 ?_
  refine V.if_eq (pc := 3) (tgt := 17) hK dJ0_isLatin1_aae02_3 (by decide) (fun c => absurd c (by decide)) (fun c => ?_)
  refine V.aload_n (pc := 6) (i := 0) hK rfl ⟨_, rfl⟩ dJ0_isLatin1_aae02_6 ?_
  refine V.getStr (pc := 7) hK (v_wS hK hi).1 tw_1803 dJ0_isLatin1_aae02_7 ?_
  refine V.if_ne (pc := 10) (tgt := 17) hK dJ0_isLatin1_aae02_10 (by decide) (fun c => absurd rfl c) (fun c => ?_)
  refine V.iconst (pc := 13) (v := 1) hK (by decide) dJ0_isLatin1_aae02_13 ?_
  refine V.goto (pc := 14) (tgt := 18) hK dJ0_isLatin1_aae02_14 (by decide) ?_
  exact V.zret (pc := 18) hO rfl dJ0_isLatin1_aae02_18 ⟨rfl, rfl, rfl, rfl⟩
theorem c_J3_checkIndex (E : v_E) (sh : v_S) (P : v_P) (M : v_M) {x n : Int32} {z : Value} (hz : z = .null ∨ ∃ a, z = .ref a) (h0 : ¬ x < 0) (h1 : x < n) : v_Ct E 0 yJ3_checkIndex_8e157 cJ3_checkIndex_8e157 3 (some .int) 0 0 [.int x, .int n, z] sh P M (v_Q1 (some (.int x)) sh P M) := by
  have hsl : (lg_sl [.int x, .int n, z]).length ≤ 3 := by rcases hz with rfl | ⟨a, rfl⟩ <;> exact Nat.le_of_ble_eq_true rfl
  refine v_Ct.of (by decide +kernel) hsl (fun X hO => ?_)
  have hK : v_K E X cJ3_checkIndex_8e157 RJ3 3 0 := hO.1
  refine V.sub (l := [(0, .int x), (1, .int n)]) (fun q hq => by
    simp only [List.mem_cons, List.not_mem_nil, or_false] at hq
    rcases hq with rfl | rfl <;> rfl) ?_
  refine V.iload_n (pc := 0) (i := 0) hK rfl dJ3_checkIndex_8e157_0 ?_
  refine V.if_lt (pc := 1) (tgt := 9) hK dJ3_checkIndex_8e157_1 (by decide) (fun c => absurd c h0) (fun c => ?_)
  refine V.iload_n (pc := 4) (i := 0) hK rfl dJ3_checkIndex_8e157_4 ?_
  refine V.iload_n (pc := 5) (i := 1) hK rfl dJ3_checkIndex_8e157_5 ?_
  refine V.icmp_lt (pc := 6) (tgt := 16) hK dJ3_checkIndex_8e157_6 (by decide) (fun c => ?_) (fun c => absurd h1 c)
  refine V.iload_n (pc := 16) (i := 0) hK rfl dJ3_checkIndex_8e157_16 ?_
  exact V.iret (pc := 17) hO dJ3_checkIndex_8e157_17 ⟨rfl, rfl, rfl, rfl⟩
theorem c_J0_checkIndex (E : v_E) (sh : v_S) (P : v_P) (M : v_M) {x n : Int32} (h0 : ¬ x < 0) (h1 : x < n) : v_Ct E 1 yJ0_checkIndex_df160 cJ0_checkIndex_df160 2 none 0 0 [.int x, .int n] sh P M (v_Q1 none sh P M) := by
  refine v_Ct.of (by decide +kernel) (Nat.le_of_ble_eq_true rfl) (fun X hO => ?_)
  have hK : v_K E X cJ0_checkIndex_df160 RJ0 2 1 := hO.1
  show V E X (0, 0) 0 [(0, .int x), (1, .int n)] [] sh P M
  refine V.iload_n (pc := 0) (i := 0) hK rfl dJ0_checkIndex_df160_0 ?_
  refine V.iload_n (pc := 1) (i := 1) hK rfl dJ0_checkIndex_df160_1 ?_
  refine V.getSF (pc := 2) hK tw_798 dJ0_checkIndex_df160_2 (fun z hz => ?_)
  refine V.cS (pc := 5) hK (c_J3_checkIndex E sh P M hz h0 h1) Y_J3_checkIndex_8e157 cs_RJ0_1059 dJ0_checkIndex_df160_5 (by decide) rfl (Nat.le_of_ble_eq_true rfl) ?_
  refine V.pop (pc := 8) hK rfl dJ0_checkIndex_df160_8 ?_
  exact V.vret (pc := 9) hO dJ0_checkIndex_df160_9 ⟨rfl, rfl, rfl, rfl⟩
theorem v_lt_of {x : Int32} {n : Nat} (h : vp_in x n) (hn : n < 2 ^ 31) : ¬ x < 0 ∧ x < Int32.ofNat n := by
  obtain ⟨j, hj, rfl⟩ := vp_in_of h hn
  exact ⟨nI_pos (by omega), nI_lt hj hn⟩
theorem v_sn_lt {i : Nat} (hi : i < 21) : v_sn.getD i 0 < 2 ^ 31 := by
  have h : ∀ i, i < 21 → v_sn.getD i 0 < 2 ^ 31 := by decide +kernel
  exact h i hi
theorem c_J1_charAt (E : v_E) (sh : v_S) (P : v_P) (M : v_M) {x : Int32} {i : Nat} (hi : i < 21) (hx : vp_in x (v_sn.getD i 0)) : v_Ct E 2 yJ1_charAt_3b067 cJ1_charAt_3b067 2 (some .char) 0 0 [.ref (E.2.2.2.2.2 i), .int x] sh P M (v_Q1 (some (.int ((v_sb.getD i []).getD x.toNatClampNeg 0 &&& 255))) sh P M) := by
  refine v_Ct.of (by decide +kernel) (Nat.le_of_ble_eq_true rfl) (fun X hO => ?_)
  have hK : v_K E X cJ1_charAt_3b067 RJ1 2 2 := hO.1
  show V E X (0, 0) 0 [(0, .ref (E.2.2.2.2.2 i)), (1, .int x)] [] sh P M
  obtain ⟨h0, h1⟩ := v_lt_of hx (v_sn_lt hi)
  refine V.iload_n (pc := 0) (i := 1) hK rfl dJ1_charAt_3b067_0 ?_
  refine V.aload_n (pc := 1) (i := 0) hK rfl ⟨_, rfl⟩ dJ1_charAt_3b067_1 ?_
  refine V.alenS (pc := 2) hK (v_wS hK hi).2.2 rfl dJ1_charAt_3b067_2 ?_
  refine V.cSv (pc := 3) hK (c_J0_checkIndex E sh P M h0 h1) Y_J0_checkIndex_df160 cs_RJ1_9 dJ1_charAt_3b067_3 (by decide) rfl (Nat.le_of_ble_eq_true rfl) ?_
  refine V.aload_n (pc := 6) (i := 0) hK rfl ⟨_, rfl⟩ dJ1_charAt_3b067_6 ?_
  refine V.iload_n (pc := 7) (i := 1) hK rfl dJ1_charAt_3b067_7 ?_
  refine V.baldS (pc := 8) hK (v_wS hK hi).2.2 hx rfl dJ1_charAt_3b067_8 ?_
  refine V.sipush (pc := 9) (v := 255) hK (by decide) dJ1_charAt_3b067_9 ?_
  refine V.iand (pc := 12) hK dJ1_charAt_3b067_12 ?_
  refine V.i2c (pc := 13) hK dJ1_charAt_3b067_13 ?_
  rw [sc_c2]
  exact V.zret (pc := 14) hO (sc_nar _) dJ1_charAt_3b067_14 ⟨rfl, rfl, rfl, rfl⟩
theorem c_J0_length_8abf5 (E : v_E) {sh : v_S} {P : v_P} (hL : v_Lay sh P) (N i : Nat) (M : v_M) {out : Int32 × v_M} (h : f_J0_length_8abf5 N i M = some out) : v_Ct E 3 yJ0_length_8abf5 cJ0_length_8abf5 1 (some .int) 0 0 [v_st E i] sh P M (v_Q1 (some (.int out.1)) sh P out.2) := by
  obtain ⟨hi, h⟩ := v_ckS h
  have hi : i < 21 := of_decide_eq_true hi
  cases h
  refine v_Ct.of (by decide +kernel) (Nat.le_of_ble_eq_true rfl) (fun X hO => ?_)
  have hK : v_K E X cJ0_length_8abf5 RJ0 1 3 := hO.1
  show V E X (0, 0) 0 [(0, v_st E i)] [] sh P M
  refine V.aload_n (pc := 0) (i := 0) hK rfl ⟨_, rfl⟩ dJ0_length_8abf5_0 ?_
  refine V.getStr (pc := 1) hK (v_wS hK hi).2.1 tw_1802 dJ0_length_8abf5_1 ?_
  refine V.alenS (pc := 4) hK (v_wS hK hi).2.2 rfl dJ0_length_8abf5_4 ?_
  refine V.aload_n (pc := 5) (i := 0) hK rfl ⟨_, rfl⟩ dJ0_length_8abf5_5 ?_
  refine V.cStr (pc := 6) hK (c_J0_coder E sh P M hi) Y_J0_coder_7d493 cv_RJ0_335 rfl hi dJ0_length_8abf5_6 (by decide) rfl (Nat.le_of_ble_eq_true rfl) ?_
  refine V.ishr (pc := 9) hK dJ0_length_8abf5_9 ?_
  rw [sb_shr0]
  exact V.iret (pc := 10) hO dJ0_length_8abf5_10 ⟨rfl, rfl, rfl, rfl⟩
theorem c_J0_charAt_5068e (E : v_E) {sh : v_S} {P : v_P} (hL : v_Lay sh P) (N i : Nat) (x : Int32) (M : v_M) {out : Int32 × v_M} (h : f_J0_charAt_5068e N i x M = some out) : v_Ct E 3 yJ0_charAt_5068e cJ0_charAt_5068e 2 (some .char) 0 0 [v_st E i, .int x] sh P M (v_Q1 (some (.int out.1)) sh P out.2) := by
  obtain ⟨hi, h⟩ := v_ckS h
  obtain ⟨hb, h⟩ := v_ckS h
  have hi : i < 21 := of_decide_eq_true hi
  cases h
  refine v_Ct.of (by decide +kernel) (Nat.le_of_ble_eq_true rfl) (fun X hO => ?_)
  have hK : v_K E X cJ0_charAt_5068e RJ0 2 3 := hO.1
  show V E X (0, 0) 0 [(0, v_st E i), (1, .int x)] [] sh P M
  refine V.aload_n (pc := 0) (i := 0) hK rfl ⟨_, rfl⟩ dJ0_charAt_5068e_0 ?_
  refine V.cStr (pc := 1) hK (c_J0_isLatin1 E sh P M hi) Y_J0_isLatin1_aae02 cv_RJ0_492 rfl hi dJ0_charAt_5068e_1 (by decide) rfl (Nat.le_of_ble_eq_true rfl) ?_
  refine V.if_eq (pc := 4) (tgt := 16) hK dJ0_charAt_5068e_4 (by decide) (fun c => absurd c (by decide)) (fun c => ?_)
  refine V.aload_n (pc := 7) (i := 0) hK rfl ⟨_, rfl⟩ dJ0_charAt_5068e_7 ?_
  refine V.getStr (pc := 8) hK (v_wS hK hi).2.1 tw_1802 dJ0_charAt_5068e_8 ?_
  refine V.iload_n (pc := 11) (i := 1) hK rfl dJ0_charAt_5068e_11 ?_
  refine V.cS (pc := 12) hK (c_J1_charAt E sh P M hi (v_ibS hb)) Y_J1_charAt_3b067 cs_RJ0_495 dJ0_charAt_5068e_12 (by decide) rfl (Nat.le_of_ble_eq_true rfl) ?_
  exact V.zret (pc := 15) hO (sc_nar _) dJ0_charAt_5068e_15 ⟨rfl, rfl, rfl, rfl⟩
