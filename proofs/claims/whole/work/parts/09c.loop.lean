theorem nI_sub8 {L i : Nat} (hL : L ≤ 4096) (hi : i ≤ 4104) : (nI L - 8 < nI i) ↔ L < i + 8 := by
  rw [Int32.lt_iff_toInt_lt, show (8 : Int32) = nI 8 from rfl, pk_sub_toInt (by omega) (by omega), nI_toInt (by omega)]
  omega
/-- what the invariant gives: layout, references, and every call's step -/
def v_Good (N : Nat) (I : v_S → v_P → v_M → Prop) : Prop := ∀ (sh : v_S) (P : v_P) (M : v_M), I sh P M → v_Lay sh P ∧ v_PO sh P ∧ ∃ qo : Nat, v_Or sh P qo ∧ P 35 1 = some qo ∧ ∀ k : Nat, k < 34 → ∀ a : Nat → Int32, ∃ (sh2 : v_S) (P2 : v_P) (M2 : v_M), v_Step N qo k a sh P M sh2 P2 M2 ∧ I sh2 P2 M2
set_option maxHeartbeats 8000000 in
set_option maxRecDepth 100000 in
theorem law_loop {N : Nat} {I : v_S → v_P → v_M → Prop} (hI : v_Good N I) {E : v_E} {X : v_X} {bb L : Nat} {xs : Nat → Int32} (hK : v_K E X cL_law RL 4 1300) (hS : v_Sc E X bb L xs) (hL4 : L ≤ 4096) (hend : ∀ (b : Nat × Nat) (i : Nat) (sh : v_S) (P : v_P) (M : v_M), V E X b 1638 [(0, .ref bb), (1, v_rf E 0), (2, v_rf E 79), (3, .int (nI i))] [] sh P M) :
    ∀ (t i : Nat) (sh : v_S) (P : v_P) (M : v_M), i ≤ 4104 → L < i + 8 * t + 8 → I sh P M → V E X (7 * t, 1967 * t) 18 [(0, .ref bb), (1, v_rf E 0), (2, v_rf E 79), (3, .int (nI i))] [] sh P M := by
  intro t
  induction t with
  | zero =>
    intro i sh P M hi4 hi h
    refine V.iload_n (pc := 18) (i := 3) hK rfl dL_law_18 ?_
    refine V.aload_n (pc := 19) (i := 0) hK rfl ⟨_, rfl⟩ dL_law_19 ?_
    refine V.slen (pc := 20) hK hS dL_law_20 ?_
    refine V.bipush (pc := 21) (v := 8) hK (by decide) dL_law_21 ?_
    refine V.isub (pc := 23) hK dL_law_23 ?_
    refine V.icmp_gt (pc := 24) (tgt := 1638) hK dL_law_24 (by decide) (fun c => hend _ i sh P M) (fun c => absurd ((nI_sub8 hL4 hi4).mpr (by omega)) c)
  | succ t ih =>
    intro i sh P M hi4 hi h
    refine V.iload_n (pc := 18) (i := 3) hK rfl dL_law_18 ?_
    refine V.aload_n (pc := 19) (i := 0) hK rfl ⟨_, rfl⟩ dL_law_19 ?_
    refine V.slen (pc := 20) hK hS dL_law_20 ?_
    refine V.bipush (pc := 21) (v := 8) hK (by decide) dL_law_21 ?_
    refine V.isub (pc := 23) hK dL_law_23 ?_
    refine V.icmp_gt (pc := 24) (tgt := 1638) hK dL_law_24 (by decide) (fun c => hend _ i sh P M) (fun c => ?_)
    have hiL : i + 8 ≤ L := by
      rcases Nat.lt_or_ge L (i + 8) with q | q
      · exact absurd ((nI_sub8 hL4 hi4).mpr q) c
      · exact q
    have back : ∀ (sh2 : v_S) (P2 : v_P) (M2 : v_M), I sh2 P2 M2 → V E X (7 * t, 1967 * t) 1632 [(0, .ref bb), (1, v_rf E 0), (2, v_rf E 79), (3, .int (nI i))] [] sh2 P2 M2 := by
      intro sh2 P2 M2 h2
      refine V.iinc (pc := 1632) (i := 3) (v := 8) (lv' := [(0, _), (1, _), (2, _), (3, _)]) hK rfl (by decide) (by decide) rfl dL_law_1632 ?_
      refine V.goto (pc := 1635) (tgt := 18) hK dL_law_1635 (by decide) ?_
      rw [show nI i + 8 = nI (i + 8) from nI_add i 8]
      exact ih (i + 8) sh2 P2 M2 (by omega) (by omega) h2
    rw [show 7 * (t + 1) = 7 * t + 7 from rfl, show 1967 * (t + 1) = 1967 * t + 1967 from rfl]
    refine V.aload_n (pc := 27) (i := 0) hK rfl ⟨_, rfl⟩ dL_law_27 ?_
    refine V.iload_n (pc := 28) (i := 3) hK rfl dL_law_28 ?_
    refine V.sldX (pc := 29) (j := i) hK hS (by omega) hL4 rfl dL_law_29 ?_
    refine V.bipush (pc := 30) (v := 63) hK (by decide) dL_law_30 ?_
    refine V.iand (pc := 32) hK dL_law_32 ?_
    obtain ⟨j, hj, ej⟩ := pk_andE (xs i) (m := 63) 6 (by decide)
    rw [ej]
    obtain ⟨hL, hPO, qo, hqo, hro, hst⟩ := hI sh P M h
    by_cases hj34 : 34 ≤ j
    · refine V.tableOut (pc := 33) (tgt := 1632) hK dL_law_33 (Or.inr (by rw [nI_toInt (by omega)]; omega)) (by decide) ?_
      exact V.bud (7 * t, 1967 * t) ⟨Nat.le_add_right _ _, Nat.le_add_right _ _⟩ (back sh P M h)
    · obtain ⟨sh2, P2, M2, hs2, hI2⟩ := hst j (by omega) (fun n => xs (i + n))
      match j, hj34, hs2 with
      | 0, _, hs2 =>
        obtain ⟨rfl, rfl, r, M1, hx, hm⟩ := hs2
        refine V.tableIn (pc := 33) (off := 151) (tgt := 184) hK dL_law_33 (by decide) (by decide) (by decide) (by decide) ?_
        exact law_0 hK hS hL4 hiL hL hx hm (back _ _ _ hI2)
      | 1, _, hs2 =>
        obtain ⟨rfl, rfl, r, M1, hx, hm⟩ := hs2
        refine V.tableIn (pc := 33) (off := 174) (tgt := 207) hK dL_law_33 (by decide) (by decide) (by decide) (by decide) ?_
        exact law_1 hK hS hL4 hiL hL hx hm (back _ _ _ hI2)
      | 2, _, hs2 =>
        obtain ⟨rfl, rfl, r, M1, hx, hm⟩ := hs2
        refine V.tableIn (pc := 33) (off := 261) (tgt := 294) hK dL_law_33 (by decide) (by decide) (by decide) (by decide) ?_
        exact law_2 hK hS hL4 hiL hL hx hm (back _ _ _ hI2)
      | 3, _, hs2 =>
        obtain ⟨rfl, rfl, r, M1, hx, hm⟩ := hs2
        refine V.tableIn (pc := 33) (off := 274) (tgt := 307) hK dL_law_33 (by decide) (by decide) (by decide) (by decide) ?_
        exact law_3 hK hS hL4 hiL hL hx hm (back _ _ _ hI2)
      | 4, _, hs2 =>
        obtain ⟨rfl, rfl, r, M1, hx, hm⟩ := hs2
        refine V.tableIn (pc := 33) (off := 327) (tgt := 360) hK dL_law_33 (by decide) (by decide) (by decide) (by decide) ?_
        exact law_4 hK hS hL4 hiL hL hx hm (back _ _ _ hI2)
      | 5, _, hs2 =>
        obtain ⟨rfl, rfl, r, M1, hx, hm⟩ := hs2
        refine V.tableIn (pc := 33) (off := 360) (tgt := 393) hK dL_law_33 (by decide) (by decide) (by decide) (by decide) ?_
        exact law_5 hK hS hL4 hiL hL hx hm (back _ _ _ hI2)
      | 6, _, hs2 =>
        obtain ⟨rfl, rfl, r, M1, hx, hm⟩ := hs2
        refine V.tableIn (pc := 33) (off := 403) (tgt := 436) hK dL_law_33 (by decide) (by decide) (by decide) (by decide) ?_
        exact law_6 hK hS hL4 hiL hL hx hm (back _ _ _ hI2)
      | 7, _, hs2 =>
        obtain ⟨rfl, rfl, r, M1, hx, hm⟩ := hs2
        refine V.tableIn (pc := 33) (off := 426) (tgt := 459) hK dL_law_33 (by decide) (by decide) (by decide) (by decide) ?_
        exact law_7 hK hS hL4 hiL hL hx hm (back _ _ _ hI2)
      | 8, _, hs2 =>
        obtain ⟨rfl, rfl, r, M1, hx, hm⟩ := hs2
        refine V.tableIn (pc := 33) (off := 469) (tgt := 502) hK dL_law_33 (by decide) (by decide) (by decide) (by decide) ?_
        exact law_8 hK hS hL4 hiL hL hx hm (back _ _ _ hI2)
      | 9, _, hs2 =>
        obtain ⟨rfl, rfl, r, M1, hx, hm⟩ := hs2
        refine V.tableIn (pc := 33) (off := 512) (tgt := 545) hK dL_law_33 (by decide) (by decide) (by decide) (by decide) ?_
        exact law_9 hK hS hL4 hiL hL hx hm (back _ _ _ hI2)
      | 10, _, hs2 =>
        obtain ⟨rfl, rfl, r, M1, hx, hm⟩ := hs2
        refine V.tableIn (pc := 33) (off := 599) (tgt := 632) hK dL_law_33 (by decide) (by decide) (by decide) (by decide) ?_
        exact law_10 hK hS hL4 hiL hL hx hm (back _ _ _ hI2)
      | 11, _, hs2 =>
        obtain ⟨rfl, rfl, r, M1, hx, hm⟩ := hs2
        refine V.tableIn (pc := 33) (off := 662) (tgt := 695) hK dL_law_33 (by decide) (by decide) (by decide) (by decide) ?_
        exact law_11 hK hS hL4 hiL hL hx hm (back _ _ _ hI2)
      | 12, _, hs2 =>
        obtain ⟨rfl, rfl, r, M1, hx, hm⟩ := hs2
        refine V.tableIn (pc := 33) (off := 737) (tgt := 770) hK dL_law_33 (by decide) (by decide) (by decide) (by decide) ?_
        exact law_12 hK hS hL4 hiL hL hx hm (back _ _ _ hI2)
      | 13, _, hs2 =>
        obtain ⟨rfl, rfl, r, M1, hx, hm⟩ := hs2
        refine V.tableIn (pc := 33) (off := 780) (tgt := 813) hK dL_law_33 (by decide) (by decide) (by decide) (by decide) ?_
        exact law_13 hK hS hL4 hiL hL hx hm (back _ _ _ hI2)
      | 14, _, hs2 =>
        obtain ⟨rfl, rfl, r, M1, hx, hm⟩ := hs2
        refine V.tableIn (pc := 33) (off := 867) (tgt := 900) hK dL_law_33 (by decide) (by decide) (by decide) (by decide) ?_
        exact law_14 hK hS hL4 hiL hL hx hm (back _ _ _ hI2)
      | 15, _, hs2 =>
        obtain ⟨rfl, rfl, r, M1, hx, hm⟩ := hs2
        refine V.tableIn (pc := 33) (off := 930) (tgt := 963) hK dL_law_33 (by decide) (by decide) (by decide) (by decide) ?_
        exact law_15 hK hS hL4 hiL hL hx hm (back _ _ _ hI2)
      | 16, _, hs2 =>
        obtain ⟨r, M1, hx, hm⟩ := hs2
        refine V.tableIn (pc := 33) (off := 953) (tgt := 986) hK dL_law_33 (by decide) (by decide) (by decide) (by decide) ?_
        exact law_16 hK hS hL4 hiL hL (hI _ _ _ hI2).1 hqo hro hx hm (back _ _ _ hI2)
      | 17, _, hs2 =>
        obtain ⟨rfl, rfl, r, M1, hx, hm⟩ := hs2
        refine V.tableIn (pc := 33) (off := 986) (tgt := 1019) hK dL_law_33 (by decide) (by decide) (by decide) (by decide) ?_
        exact law_17 hK hS hL4 hiL hL hPO hx hm (back _ _ _ hI2)
      | 18, _, hs2 =>
        obtain ⟨rfl, rfl, r, M1, hx, hm⟩ := hs2
        refine V.tableIn (pc := 33) (off := 1045) (tgt := 1078) hK dL_law_33 (by decide) (by decide) (by decide) (by decide) ?_
        exact law_18 hK hS hL4 hiL hL hPO hx hm (back _ _ _ hI2)
      | 19, _, hs2 =>
        obtain ⟨rfl, rfl, r, M1, hx, hm⟩ := hs2
        refine V.tableIn (pc := 33) (off := 1078) (tgt := 1111) hK dL_law_33 (by decide) (by decide) (by decide) (by decide) ?_
        exact law_19 hK hS hL4 hiL hL hx hm (back _ _ _ hI2)
      | 20, _, hs2 =>
        obtain ⟨rfl, rfl, r, M1, hx, hm⟩ := hs2
        refine V.tableIn (pc := 33) (off := 1131) (tgt := 1164) hK dL_law_33 (by decide) (by decide) (by decide) (by decide) ?_
        exact law_20 hK hS hL4 hiL hL hx hm (back _ _ _ hI2)
      | 21, _, hs2 =>
        obtain ⟨rfl, rfl, r, M1, hx, hm⟩ := hs2
        refine V.tableIn (pc := 33) (off := 1200) (tgt := 1233) hK dL_law_33 (by decide) (by decide) (by decide) (by decide) ?_
        exact law_21 hK hS hL4 hiL hL hx hm (back _ _ _ hI2)
      | 22, _, hs2 =>
        obtain ⟨rfl, rfl, r, M1, hx, hm⟩ := hs2
        refine V.tableIn (pc := 33) (off := 1213) (tgt := 1246) hK dL_law_33 (by decide) (by decide) (by decide) (by decide) ?_
        exact law_22 hK hS hL4 hiL hL hx hm (back _ _ _ hI2)
      | 23, _, hs2 =>
        obtain ⟨rfl, rfl, r, M1, hx, hm⟩ := hs2
        refine V.tableIn (pc := 33) (off := 1236) (tgt := 1269) hK dL_law_33 (by decide) (by decide) (by decide) (by decide) ?_
        exact law_23 hK hS hL4 hiL hL hx hm (back _ _ _ hI2)
      | 24, _, hs2 =>
        obtain ⟨rfl, rfl, r, M1, hx, hm⟩ := hs2
        refine V.tableIn (pc := 33) (off := 1279) (tgt := 1312) hK dL_law_33 (by decide) (by decide) (by decide) (by decide) ?_
        exact law_24 hK hS hL4 hiL hL hx hm (back _ _ _ hI2)
      | 25, _, hs2 =>
        obtain ⟨rfl, rfl, r, M1, hx, hm⟩ := hs2
        refine V.tableIn (pc := 33) (off := 1322) (tgt := 1355) hK dL_law_33 (by decide) (by decide) (by decide) (by decide) ?_
        exact law_25 hK hS hL4 hiL hL hx hm (back _ _ _ hI2)
      | 26, _, hs2 =>
        obtain ⟨rfl, rfl, r, M1, hx, hm⟩ := hs2
        refine V.tableIn (pc := 33) (off := 1355) (tgt := 1388) hK dL_law_33 (by decide) (by decide) (by decide) (by decide) ?_
        exact law_26 hK hS hL4 hiL hL hx hm (back _ _ _ hI2)
      | 27, _, hs2 =>
        obtain ⟨rfl, rfl, r, M1, hx, hm⟩ := hs2
        refine V.tableIn (pc := 33) (off := 1388) (tgt := 1421) hK dL_law_33 (by decide) (by decide) (by decide) (by decide) ?_
        exact law_27 hK hS hL4 hiL hL hx hm (back _ _ _ hI2)
      | 28, _, hs2 =>
        obtain ⟨rfl, rfl, r, M1, hx, hm⟩ := hs2
        refine V.tableIn (pc := 33) (off := 1421) (tgt := 1454) hK dL_law_33 (by decide) (by decide) (by decide) (by decide) ?_
        exact law_28 hK hS hL4 hiL hL hx hm (back _ _ _ hI2)
      | 29, _, hs2 =>
        obtain ⟨rfl, rfl, r, M1, hx, hm⟩ := hs2
        refine V.tableIn (pc := 33) (off := 1454) (tgt := 1487) hK dL_law_33 (by decide) (by decide) (by decide) (by decide) ?_
        exact law_29 hK hS hL4 hiL hL hx hm (back _ _ _ hI2)
      | 30, _, hs2 =>
        obtain ⟨rfl, rfl, r, M1, hx, hm⟩ := hs2
        refine V.tableIn (pc := 33) (off := 1487) (tgt := 1520) hK dL_law_33 (by decide) (by decide) (by decide) (by decide) ?_
        exact law_30 hK hS hL4 hiL hL hx hm (back _ _ _ hI2)
      | 31, _, hs2 =>
        obtain ⟨r, M1, hx, hm⟩ := hs2
        refine V.tableIn (pc := 33) (off := 1530) (tgt := 1563) hK dL_law_33 (by decide) (by decide) (by decide) (by decide) ?_
        exact law_31 hK hS hL4 hiL hL hPO (hI _ _ _ hI2).1 hx hm (back _ _ _ hI2)
      | 32, _, hs2 =>
        obtain ⟨rfl, rfl, r, M1, hx, hm⟩ := hs2
        refine V.tableIn (pc := 33) (off := 1553) (tgt := 1586) hK dL_law_33 (by decide) (by decide) (by decide) (by decide) ?_
        exact law_32 hK hS hL4 hiL hL hPO hx hm (back _ _ _ hI2)
      | 33, _, hs2 =>
        obtain ⟨rfl, rfl, r, M1, hx, hm⟩ := hs2
        refine V.tableIn (pc := 33) (off := 1576) (tgt := 1609) hK dL_law_33 (by decide) (by decide) (by decide) (by decide) ?_
        exact law_33 hK hS hL4 hiL hL hx hm (back _ _ _ hI2)
      | j + 34, hj34, _ => omega
