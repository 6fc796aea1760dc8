/-! tried -/
def okT (np nm : Nat) (x1 x2 x3 x4 x5 x6 : Int32) : Prop := ((0 ≤ x1 ∧ x1 ≤ nI nm - 1) ∧ (0 ≤ x2 ∧ x2 ≤ nI np - 1)) ∧ (0 ≤ x3 ∧ x3 ≤ nI np - 1) ∧ ¬ x2 = x3 ∧ (0 ≤ x4 ∧ x4 ≤ 15) ∧ (0 ≤ x5 ∧ x5 ≤ 999) ∧ (0 ≤ x6 ∧ x6 ≤ 15)
theorem e_can1 (N : Nat) {np nm : Nat} (x1 x2 x3 x4 x5 x6 : Int32) {M : v_M} (e : M.1 1 0 = nI np) (f : M.1 11 0 = nI nm) : (okT np nm x1 x2 x3 x4 x5 x6 → f_X11_canTry N x1 x2 x3 x4 x5 x6 M = some (1, M)) ∧ (¬ okT np nm x1 x2 x3 x4 x5 x6 → f_X11_canTry N x1 x2 x3 x4 x5 x6 M = some (0, M)) := by
  obtain ⟨hp1, hp2⟩ := e_hasPartOf N x1 x2 M
  rw [e, f] at hp1 hp2
  unfold f_X11_canTry
  simp only [e_hasPart, e_within, v_b0, v_b1, v_ckT]
  by_cases a : (0 ≤ x1 ∧ x1 ≤ nI nm - 1) ∧ (0 ≤ x2 ∧ x2 ≤ nI np - 1)
  rotate_left
  · rw [hp2 a]; exact ⟨fun q => absurd q.1 a, fun _ => rfl⟩
  rw [hp1 a]
  simp only [Option.bind_some]
  rw [if_neg (show ¬ (1 : Int32) = 0 by decide), e]
  by_cases a3 : 0 ≤ x3 ∧ x3 ≤ nI np - 1
  rotate_left
  · rw [v_wiFe a3]; exact ⟨fun q => absurd q.2.1 a3, fun _ => rfl⟩
  rw [v_wiTe a3]
  by_cases a4 : x2 = x3
  · rw [if_pos a4]; exact ⟨fun q => absurd a4 q.2.2.1, fun _ => rfl⟩
  rw [if_neg a4]
  by_cases a5 : 0 ≤ x4 ∧ x4 ≤ 15
  rotate_left
  · rw [v_wiFe a5]; exact ⟨fun q => absurd q.2.2.2.1 a5, fun _ => rfl⟩
  rw [v_wiTe a5]
  by_cases a6 : 0 ≤ x5 ∧ x5 ≤ 999
  rotate_left
  · rw [v_wiFe a6]; exact ⟨fun q => absurd q.2.2.2.2.1 a6, fun _ => rfl⟩
  rw [v_wiTe a6]
  by_cases a7 : 0 ≤ x6 ∧ x6 ≤ 15
  rotate_left
  · rw [v_wiFe a7]; exact ⟨fun q => absurd q.2.2.2.2.2 a7, fun _ => rfl⟩
  rw [v_wiTe a7]
  exact ⟨fun _ => rfl, fun q => absurd ⟨a, a3, a4, a5, a6, a7⟩ q⟩
theorem e_can2 (N : Nat) {np nm : Nat} (x1 x2 x3 x4 x5 x6 : Int32) {M : v_M} (e : M.1 79 2 = nI np) (f : M.1 79 3 = nI nm) : (okT np nm x1 x2 x3 x4 x5 x6 → f_X12_isTrial N x1 x2 x3 x4 x5 x6 M = some (1, M)) ∧ (¬ okT np nm x1 x2 x3 x4 x5 x6 → f_X12_isTrial N x1 x2 x3 x4 x5 x6 M = some (0, M)) := by
  unfold f_X12_isTrial
  simp only [e_isMachine, e_isPart, l_0, l_15, l_999, e_in2, v_b0, v_b1, v_ckT, Option.bind_some, e, f]
  by_cases a1 : 0 ≤ x1 ∧ x1 ≤ nI nm - 1
  rotate_left
  · rw [v_wiFe a1]; exact ⟨fun q => absurd q.1.1 a1, fun _ => rfl⟩
  rw [v_wiTe a1]
  by_cases a2 : 0 ≤ x2 ∧ x2 ≤ nI np - 1
  rotate_left
  · rw [v_wiFe a2]; exact ⟨fun q => absurd q.1.2 a2, fun _ => rfl⟩
  rw [v_wiTe a2]
  by_cases a3 : 0 ≤ x3 ∧ x3 ≤ nI np - 1
  rotate_left
  · rw [v_wiFe a3]; exact ⟨fun q => absurd q.2.1 a3, fun _ => rfl⟩
  rw [v_wiTe a3]
  by_cases a4 : x2 = x3
  · rw [if_pos a4]; exact ⟨fun q => absurd a4 q.2.2.1, fun _ => rfl⟩
  rw [if_neg a4]
  by_cases a5 : 0 ≤ x4 ∧ x4 ≤ 15
  rotate_left
  · rw [v_wiFe a5]; exact ⟨fun q => absurd q.2.2.2.1 a5, fun _ => rfl⟩
  rw [v_wiTe a5]
  by_cases a6 : 0 ≤ x5 ∧ x5 ≤ 999
  rotate_left
  · rw [v_wiFe a6]; exact ⟨fun q => absurd q.2.2.2.2.1 a6, fun _ => rfl⟩
  rw [v_wiTe a6]
  by_cases a7 : 0 ≤ x6 ∧ x6 ≤ 15
  rotate_left
  · rw [v_wiFe a7]; exact ⟨fun q => absurd q.2.2.2.2.2 a7, fun _ => rfl⟩
  rw [v_wiTe a7]
  exact ⟨fun _ => rfl, fun q => absurd ⟨⟨a1, a2⟩, a3, a4, a5, a6, a7⟩ q⟩
theorem fun_cg0 {pt ls g : Nat → Nat} {nc : Nat} (h : nc ≤ 8) : (fun i => (cgg 0 pt ls g nc i).toNat) = g := by
  funext i
  rw [cgg_0 nc h]
  rfl
theorem fun_cs0 {pt : Nat → Nat} {dl s : Nat → Int32} {nc : Nat} (h : nc ≤ 8) : cgs 0 pt dl s nc = s := by
  funext i
  exact cgs_0 nc h
theorem e_neg {N : Nat} (hN : 2000 ≤ N) {D : Dw} {kd st mk : Nat → Int32} {g w e : Nat → Nat} {np a b most : Nat} (x5 x6 x7 : Int32) (hD : DwB D np) (hK : KdB kd np) (hB : DoB np g w e) (ha : a < np) (hb : b < np) (hm : most ≤ 15) (h7 : x7 < -1) : ∀ B, TrR B D kd st mk g w e np a b → ∃ B' : v_M, f_X12_unlikes_L17 N N (nI a) (nI b) (nI most) x5 x6 x7 0 0 B = some (-1, B') ∧ v_fr [97, 99, 100] [] B B' := by
  have h7' : x7.toInt < -1 := i_lt.mp h7
  have n7 : ∀ n : Nat, n ≤ 1000 → ¬ nI n = x7 := fun n hn z => by
    rw [← z, nI_toInt (by omega)] at h7'
    omega
  have inn : ∀ (x : Nat) (K' : Int32 → Int32 → Int32 → Int32 → Int32 → Int32 → Int32 → Int32 → v_M → Option (Int32 × v_M)), x ≤ most → ∀ (q : Nat), (∀ n : Nat, n ≤ q + 16 → ∀ B, TrR B D kd st mk g w e np a b → ∃ B' : v_M, K' (nI a) (nI b) (nI most) x5 x6 x7 (nI n) (nI (x + 1)) B = some (-1, B') ∧ v_fr [97, 99, 100] [] B B') → q ≤ 900 → ∀ (s y f n : Nat) (B : v_M), y + s = most + 1 → s < f → n ≤ q + y → TrR B D kd st mk g w e np a b → ∃ B' : v_M, f_X12_unlikes_L27 N K' f (nI a) (nI b) (nI most) x5 x6 x7 (nI n) (nI x) (nI y) B = some (-1, B') ∧ v_fr [97, 99, 100] [] B B' := by
    intro x K' hx q ho hq s
    have h24 := hD.1
    induction s with
    | zero =>
      intro y f n B hy hf hn hT
      obtain ⟨f, rfl⟩ : ∃ q, f = q + 1 := ⟨f - 1, by omega⟩
      rw [f_X12_unlikes_L27, if_pos (nI_lt (by omega) (by omega)), nI_1]
      exact ho n (by omega) B hT
    | succ s ih =>
      intro y f n B hy hf hn hT
      obtain ⟨f, rfl⟩ : ∃ q, f = q + 1 := ⟨f - 1, by omega⟩
      obtain ⟨B', B'', q1, q2, q3, q4⟩ := e_at2 hN x5 x6 hD hK hB ha (show x ≤ 15 by omega) (show y ≤ 15 by omega) hT
      rw [f_X12_unlikes_L27, if_neg (nI_nlt (by omega) (by omega))]
      simp only [v_ckT, v_letE, v_ibN (show a < 24 by omega) (show 24 < 2 ^ 31 by omega), nI_clamp (show a < 2 ^ 31 by omega), v_ibN (show b < 24 by omega) (show 24 < 2 ^ 31 by omega), nI_clamp (show b < 2 ^ 31 by omega)]
      rw [q1, Option.bind_some, q2, Option.bind_some, v01_0, f_X12_unlikes_L88, f_X12_unlikes_L88, nI_1, nI_1]
      obtain ⟨C, c1, c2⟩ := ih (y + 1) f n B'' (by omega) (by omega) (by omega) q4
      obtain ⟨E, e1, e2⟩ := ih (y + 1) f (n + 1) B'' (by omega) (by omega) (by omega) q4
      cases unq D kd st mk g w e np a b x5 x6 x y with
      | false => rw [if_neg (by decide)]; exact ⟨C, c1, v_frT q3 c2⟩
      | true => rw [if_pos rfl, if_neg (n7 n (by omega))]; exact ⟨E, e1, v_frT q3 e2⟩
  have out : ∀ (s x f n : Nat) (B : v_M), x + s = most + 1 → s < f → n ≤ 16 * x → TrR B D kd st mk g w e np a b → ∃ B' : v_M, f_X12_unlikes_L17 N f (nI a) (nI b) (nI most) x5 x6 x7 (nI n) (nI x) B = some (-1, B') ∧ v_fr [97, 99, 100] [] B B' := by
    intro s
    induction s with
    | zero =>
      intro x f n B hx hf hn hT
      obtain ⟨f, rfl⟩ : ∃ q, f = q + 1 := ⟨f - 1, by omega⟩
      rw [f_X12_unlikes_L17, if_pos (nI_lt (by omega) (by omega)), if_neg (fun z => by rw [z] at h7'; exact absurd h7' (by decide))]
      exact ⟨B, rfl, v_frR⟩
    | succ s ih =>
      intro x f n B hx hf hn hT
      obtain ⟨f, rfl⟩ : ∃ q, f = q + 1 := ⟨f - 1, by omega⟩
      rw [f_X12_unlikes_L17, if_neg (nI_nlt (by omega) (by omega))]
      exact inn x (f_X12_unlikes_L17 N f) (by omega) (16 * x) (fun n hn B hT => ih (x + 1) f n B (by omega) (by omega) (by omega) hT) (by omega) (most + 1) 0 N n B (by omega) (by omega) (by omega) hT
  exact fun B hT => out (most + 1) 0 N 0 B (by omega) (by omega) (by omega) hT
theorem st_tried {N : Nat} (hN : 2000 ≤ N) (x1 x2 x3 x4 x5 x6 x7 : Int32) {M : v_M} {np nm nc : Nat} (hd : J_drawc M np) (hf : J_fleetc M np nm) (hc : J_chgc M np nc) : ∃ (r : Int32) (M1 M2 : v_M), f_X11_tried N x1 x2 x3 x4 x5 x6 x7 M = some (r, M1) ∧ f_X12_tried N x1 x2 x3 x4 x5 x6 x7 M1 = some (r, M2) ∧ v_fr [19, 20, 21, 22, 23, 24, 25, 26, 27, 94, 95, 96, 97, 98, 99, 100] [] M M2 := by
  have e1 := hd.2.1
  have e2 := hd.2.2.1
  have f1 := hf.1
  have f2 := hf.2.1
  have h20 : nm ≤ 20 := hf.2.2.1.1
  have h24 := hd.1
  have h8 := hc.1
  obtain ⟨c1, c2⟩ := e_can1 N x1 x2 x3 x4 x5 x6 e1 f1
  unfold f_X11_tried f_X12_tried
  by_cases ok : okT np nm x1 x2 x3 x4 x5 x6
  rotate_left
  · rw [c2 ok, Option.bind_some]
    refine ⟨-1, M, M, rfl, ?_, v_frR⟩
    rw [(e_can2 N x1 x2 x3 x4 x5 x6 e2 f2).2 ok, Option.bind_some]
    rfl
  rw [c1 ok, Option.bind_some, if_neg (show ¬ (1 : Int32) = 0 by decide)]
  obtain ⟨⟨a1, a2⟩, a3, a4, a5, a6, a7⟩ := id ok
  obtain ⟨m, hm, rfl⟩ := i_idx (by omega) a1
  obtain ⟨a, ha, rfl⟩ := i_idx (by omega) a2
  obtain ⟨b, hb, rfl⟩ := i_idx (by omega) a3
  obtain ⟨most, hmo, rfl⟩ := i_idx (c := 16) (by omega) (show 0 ≤ x4 ∧ x4 ≤ nI 16 - 1 from a5)
  obtain ⟨hD, hC, hR, hK⟩ := hd.dw
  obtain ⟨hB, hB2, -⟩ := J_door hd hf hm
  obtain ⟨k1, k2, k3⟩ := hc.ch h24
  have ref : ∀ (W : List Nat) (A : v_M), v_fr W [] M A → ([79, 80, 81, 82, 83, 84, 85, 86, 88, 89, 90, 91].all (fun k => !(W.contains k))) = true → ([101, 102, 103, 104].all (fun k => !(W.contains k))) = true → ∃ B, v_fr [94, 95, 96, 97, 98, 99] [] A B ∧ TrR B (dwO M) (M.1 2) (M.1 8) (mO M m) (gO M) (wO M m) (eO M m) np a b ∧ ∀ k, f_X12_unlikes N (nI m) (nI a) (nI b) (nI most) x5 x6 0 k A = f_X12_unlikes_L17 N N (nI a) (nI b) (nI most) x5 x6 k 0 0 B := fun W A fr hk hk2 => by
    obtain ⟨B, t1, t2, t3, t4, t5⟩ := J_take (show 100 ≤ N by omega) hd hf hm fr hk
    have cr : ChR B (fun i => tN (M.1 30 i)) (fun i => tN (M.1 31 i)) (M.1 32) (M.1 33) nc := by
      have e : ∀ k ∈ [101, 102, 103, 104], A.1 k = M.1 k := fun k hm => v_keepR fr k (by have := List.all_eq_true.mp hk2 k hm; simpa using this)
      have e79 : A.1 79 = M.1 79 := v_keepR fr 79 (by have := List.all_eq_true.mp hk 79 (by decide); simpa using this)
      refine ChR.keep t2 (by decide) (by decide) ?_
      unfold ChR at k3 ⊢
      rw [e79, e 101 (by decide), e 102 (by decide), e 103 (by decide), e 104 (by decide)]
      exact k3
    obtain ⟨C, u1, u2, u3, u4⟩ := e_alter (show 100 ≤ N by omega) 0 hD hB k1 t3 t4 cr
    rw [fun_cg0 h8, fun_cs0 h8, fun_cs0 h8] at u4
    refine ⟨C, v_frT (v_frt (W := [94, 95, 96, 97, 98, 99]) (O := []) (by decide) (by decide) v_frR t2) (v_frt (W := [94, 95, 96, 97, 98, 99]) (O := []) (by decide) (by decide) v_frR u2), ⟨u3, wO M m, fun i _ _ => rfl, u4⟩, fun k => ?_⟩
    unfold f_X12_unlikes
    rw [t1, Option.bind_some, u1, Option.bind_some]
  by_cases z : (-1 : Int32) ≤ x7
  · rw [if_pos z]
    obtain ⟨A, p1, p2, p3, p4, p5, p6⟩ := J_load (N := N) hd hf hm
    obtain ⟨r, g1, g2⟩ := e_tri2 hN (st := M.1 8) (mk := mO M m) x5 x6 x7 hD hK hB ha hb (show most ≤ 15 by omega) (most + 1) 0 N N 0 (by omega) (by omega) (by omega)
    obtain ⟨B, q1, q2, q3⟩ := g1 A ⟨p3, wO M m, fun i _ _ => rfl, p4⟩
    have fB : v_fr [19, 20, 21, 22, 23, 24, 25, 26, 27] [] M B := v_frt (W := [19, 20, 21, 22, 23, 24, 25, 26, 27]) (O := []) (by decide) (by decide) (v_frt (W := [19, 20, 21, 22, 23, 24, 25, 26, 27]) (O := []) (by decide) (by decide) v_frR p2) q2
    obtain ⟨C, s1, s2, s3⟩ := ref _ B fB (by decide) (by decide)
    obtain ⟨E, y1, y2, y3⟩ := g2 C s2
    refine ⟨r, B, E, ?_, ?_, v_frt (W := [19, 20, 21, 22, 23, 24, 25, 26, 27, 94, 95, 96, 97, 98, 99, 100]) (O := []) (by decide) (by decide) (v_frt (W := [19, 20, 21, 22, 23, 24, 25, 26, 27, 94, 95, 96, 97, 98, 99, 100]) (O := []) (by decide) (by decide) (v_frt (W := [19, 20, 21, 22, 23, 24, 25, 26, 27, 94, 95, 96, 97, 98, 99, 100]) (O := []) (by decide) (by decide) v_frR fB) s1) y2⟩
    · rw [p1, Option.bind_some]
      exact q1
    · rw [(e_can2 N (nI m) (nI a) (nI b) (nI most) x5 x6 (np := np) (nm := nm) (by rw [v_keepR fB 79 (by decide)]; exact e2) (by rw [v_keepR fB 79 (by decide)]; exact f2)).1 ok, Option.bind_some, if_neg (show ¬ (1 : Int32) = 0 by decide), s3]
      rw [show nI 0 = 0 from rfl] at y1
      rw [y1]
      rfl
  · rw [if_neg z]
    obtain ⟨C, s1, s2, s3⟩ := ref [] M v_frR (by decide) (by decide)
    obtain ⟨E, y1, y2⟩ := e_neg hN x5 x6 x7 hD hK hB ha hb (show most ≤ 15 by omega) (by rw [i_lt]; rw [i_le] at z; omega) C s2
    refine ⟨-1, M, E, rfl, ?_, v_frt (W := [19, 20, 21, 22, 23, 24, 25, 26, 27, 94, 95, 96, 97, 98, 99, 100]) (O := []) (by decide) (by decide) (v_frt (W := [19, 20, 21, 22, 23, 24, 25, 26, 27, 94, 95, 96, 97, 98, 99, 100]) (O := []) (by decide) (by decide) v_frR s1) y2⟩
    rw [(e_can2 N (nI m) (nI a) (nI b) (nI most) x5 x6 e2 f2).1 ok, Option.bind_some, if_neg (show ¬ (1 : Int32) = 0 by decide), s3, y1]
    rfl
