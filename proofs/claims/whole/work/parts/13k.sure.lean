/-! fewest, sure -/
theorem alN_all {al : Nat → Bool} {tf : Nat → Nat} {n : Nat} (ht : ∀ s, s < n → tf s < n) : ∀ i : Nat, i ≤ n → ssm (alN al tf i) n ≤ i := by
  intro i
  induction i with
  | zero => intro _; rw [ssm_c (g := alN al tf 0) (h := fun _ => 0) n (fun t _ => rfl), ssm_0]; exact Nat.le_refl _
  | succ i ih =>
    intro hi
    have a := ih (by omega)
    by_cases c : al i = true
    · have en : ∀ t, t ≠ tf i → alN al tf (i + 1) t = alN al tf i t := fun t h => alN_n (fun z => h z.2.symm)
      have es := alN_s (al := al) (tf := tf) (i := i) c rfl
      have l2 := alN_le al tf i (tf i)
      have su := ssm_u (g := alN al tf i) (h := alN al tf (i + 1)) (j := tf i) (d := min 2 (alN al tf i (tf i) + 1) - alN al tf i (tf i)) (by rw [es]; omega) en n (ht i (by omega))
      omega
    · rw [ssm_c (h := alN al tf i) n (fun t _ => alN_n (fun z => c z.1))]
      omega
def woO (M : v_M) (j : Nat) : Nat := 10 * tN (M.1 128 j) + tN (M.1 129 j)
def sdO (M : v_M) (j : Nat) : Nat := tN (M.1 62 j)
def LNO (M : v_M) (ns : Nat) : Nat → Int32 := LNs (woO M) (sdO M) (M.1 63) ns
def fdO (M : v_M) (ns : Nat) : Nat → Nat := fds (woO M) (sdO M) (M.1 63) ns
theorem st_learn {N : Nat} (hN : 300 ≤ N) {M : v_M} {nm n ns : Nat} (h20 : nm ≤ 20) (h : J_stac M nm n) (he : J_seenc M nm ns) : ∃ A : v_M, f_X10_learn N M = some (0, A) ∧ v_fr [65, 66] [] M A ∧ SC A n (wkO M) (tfO M) (M.1 55) (LNO M ns) (fdO M ns) := by
  obtain ⟨s1, s2, s3, s4, c1, c2, c3, c4⟩ := h
  obtain ⟨e1, e2, e3, e4⟩ := he
  obtain ⟨A, a1, a2, a3⟩ := e_learn hN (wo := woO M) (sd := sdO M) (dn := M.1 63) e1 e2 (fun j hj => by
    obtain ⟨m, t, d, b1, b2, b3, b4, b5, b6, b7, b8, b9, b10⟩ := e4 j hj
    unfold woO sdO
    rw [b5, b6, b7, tN_nI (by omega), tN_nI (by omega), tN_nI (by omega), b4]
    exact ⟨rfl, by omega, rfl, b3, rfl⟩)
  refine ⟨A, a1, a2, ⟨s1, by rw [v_keepC a2 52 0 (by decide), s2]⟩, fun s hs => ?_, fun w hw => ?_⟩
  · obtain ⟨⟨m, t, b1, b2, b3, b4, b5⟩, -⟩ := s4 s hs
    obtain ⟨t1, t2, -⟩ := c1 s hs
    obtain ⟨u1, u2⟩ := c2 s hs
    rw [v_keepR a2 53 (by decide), v_keepR a2 55 (by decide), v_keepR a2 56 (by decide), v_keepR a2 57 (by decide), v_keepR a2 58 (by decide), v_keepR a2 60 (by decide)]
    have ew : wkO M s = 10 * m + t := by unfold wkO; rw [b5, tN_nI (by omega)]
    exact ⟨⟨by rw [b5, ew], by omega⟩, ⟨t1, by omega⟩, u1, u2, rfl, c4 (tfO M s) s hs rfl⟩
  · obtain ⟨u1, u2⟩ := a3 w hw
    rw [v_keepR a2 59 (by decide)]
    exact ⟨c3 w hw, u1, u2, fds_le _ _ _ _ _⟩
theorem st_looks {N : Nat} (hN : 300 ≤ N) {W : List Nat} {O : List (Nat × Nat)} {M B : v_M} {nm n ns : Nat} (h20 : nm ≤ 20) (h : J_stac M nm n) (he : J_seenc M nm ns) (fr : v_fr W O M B) (hk : ([79, 122, 123, 124, 125, 128, 129, 130, 131].all (fun k => !(W.contains k || O.any (fun q => q.1 == k)))) = true) : ∃ C : v_M, f_X12_looks N B = some (0, C) ∧ v_fr [126, 132, 134, 135] [] B C ∧ SR C n (wkO M) (tfO M) (M.1 55) (LNO M ns) (fdO M ns) := by
  have e : ∀ k ∈ [79, 122, 123, 124, 125, 128, 129, 130, 131], B.1 k = M.1 k := fun k hm => v_keepR fr k (by have := List.all_eq_true.mp hk k hm; simpa using this)
  obtain ⟨s1, s2, s3, s4, c1, -⟩ := h
  obtain ⟨e1, e2, e3, e4⟩ := he
  obtain ⟨A, a1, a2, a3⟩ := r_look0 N 200 0 N B (by omega) (by omega) (fun w hw => by omega)
  obtain ⟨C, k1, k2, k3⟩ := r_look1 N (mm := fun j => tN (M.1 128 j)) (tt := fun j => tN (M.1 129 j)) (sd := sdO M) (dn := M.1 63) e1 ns 0 N A (by omega) (by omega) (by rw [v_keepR a2 79 (by decide), e 79 (by decide), e3]) (fun j hj => by
    obtain ⟨m, t, d, b1, b2, b3, b4, b5, b6, b7, b8, b9, b10⟩ := e4 j hj
    unfold sdO
    rw [v_keepR a2 128 (by decide), v_keepR a2 129 (by decide), v_keepR a2 130 (by decide), v_keepR a2 131 (by decide), e 128 (by decide), e 129 (by decide), e 130 (by decide), e 131 (by decide), b5, b6, b7, b8, b9, tN_nI (by omega), tN_nI (by omega), tN_nI (by omega)]
    exact ⟨rfl, rfl, by omega, rfl, b3, rfl⟩) (fun w hw => by
    obtain ⟨u1, u2⟩ := a3 w hw
    rw [u1, u2]
    exact ⟨rfl, rfl⟩)
  have fC : v_fr [134, 135] [] B C := v_frT a2 k2
  obtain ⟨D, d1, d2, d3⟩ := r_look2 hN (wk := wkO M) (tf := tfO M) (dy := M.1 55) (LN := LNO M ns) s1 n 0 N C (by omega) (by omega) (by rw [v_keepR fC 79 (by decide), e 79 (by decide), s3]) (fun j hj => by
    obtain ⟨⟨m, t, b1, b2, b3, b4, b5⟩, b6, b7, -⟩ := s4 j hj
    obtain ⟨t1, t2, t3, t4⟩ := c1 j hj
    have ew : wkO M j = 10 * m + t := by unfold wkO; rw [b5, tN_nI (by omega)]
    obtain ⟨-, b6', b7', -⟩ := s4 (tfO M j) (by omega)
    rw [v_keepR fC 122 (by decide), v_keepR fC 123 (by decide), v_keepR fC 124 (by decide), v_keepR fC 125 (by decide), e 122 (by decide), e 123 (by decide), e 124 (by decide), e 125 (by decide), b3, b4, ew, b6, b7, b6', b7']
    refine ⟨by rw [show (10 : Int32) = nI 10 from rfl, nI_mul, nI_add], by omega, rfl, t2, t3, fun i hi => ?_⟩
    obtain ⟨-, b6'', b7'', -⟩ := s4 i (by omega)
    rw [b6'', b7'']
    exact t4 i hi) (fun w hw => (k3 w hw).1) (fun j hj => by omega)
  have fD : v_fr [126, 132, 134, 135] [] B D := v_frt (by decide) (by decide) (v_frt (by decide) (by decide) v_frR fC) d2
  refine ⟨D, ?_, fD, ⟨s1, by rw [v_keepR fD 79 (by decide), e 79 (by decide), s3]⟩, fun j hj => ?_, fun w hw => ?_⟩
  · unfold f_X12_looks
    rw [show nI 0 = 0 from rfl] at a1 k1 d1
    rw [a1, k1, d1]
  · obtain ⟨⟨m, t, b1, b2, b3, b4, b5⟩, b6, b7, dd, b8, b9⟩ := s4 j hj
    obtain ⟨t1, t2, -⟩ := c1 j hj
    have ew : wkO M j = 10 * m + t := by unfold wkO; rw [b5, tN_nI (by omega)]
    obtain ⟨q1, q2⟩ := d3 j hj
    rw [v_keepR fD 122 (by decide), v_keepR fD 123 (by decide), v_keepR fD 125 (by decide), e 122 (by decide), e 123 (by decide), e 125 (by decide), q1, q2, b3, b4, ew, b7, b9]
    refine ⟨⟨by rw [show (10 : Int32) = nI 10 from rfl, nI_mul, nI_add], by omega⟩, ⟨rfl, by omega⟩, rfl, ?_, fun z => ?_⟩
    · rfl
    · rw [i_le, nI_toInt (by omega), show (-1 : Int32).toInt = -1 from rfl] at z
      omega
  · rw [v_keepR d2 134 (by decide)]
    exact ⟨(k3 w hw).2, fds_le _ _ _ _ _⟩
def fwW : List Nat := [65, 66, 67, 68, 69, 70]
def fwV : List Nat := [65, 66, 67, 68, 69, 70, 126, 127, 132, 133, 134, 135, 136, 137, 138, 139]
theorem b_iff {a b : Bool} {P : Prop} (h1 : a = true ↔ P) (h2 : b = true ↔ P) : a = b := by
  cases a <;> cases b <;> simp_all
theorem st_fewest {N : Nat} (hN : 300 ≤ N) {M : v_M} {nm n ns : Nat} (h20 : nm ≤ 20) (h : J_stac M nm n) (he : J_seenc M nm ns) : ∃ (r : Int32) (M1 M2 : v_M), f_X11_fewest N M = some (r, M1) ∧ f_X12_fewest N M1 = some (r, M2) ∧ v_fr fwV [(64, 0)] M M2 := by
  obtain ⟨A, a1, a2, a3⟩ := st_learn hN h20 h he
  obtain ⟨b, B, b1, b2, b3⟩ := e_canB hN (-1) none (fun s z => nomatch z) a3
  have fB : v_fr fwW [(64, 0)] M B := v_frt (by decide) (by decide) (v_frt (by decide) (by decide) v_frR a2) b2
  have hSB := a3.keep b2 (by decide) (by decide)
  have h200 : n ≤ 200 := h.1
  have ref : ∀ G, v_fr fwW [(64, 0)] M G → ∃ (C D : v_M), f_X12_looks N G = some (0, C) ∧ f_X12_canBe N (-1) (-1) C = some (v01 b, D) ∧ v_fr fwV [(64, 0)] M D ∧ SR D n (wkO M) (tfO M) (M.1 55) (LNO M ns) (fdO M ns) := fun G fG => by
    obtain ⟨C, c1, c2, c3⟩ := st_looks hN h20 h he fG (by decide)
    obtain ⟨b', D, d1, d2, d3⟩ := e_canR hN (-1) none (fun s z => nomatch z) c3
    have : b' = b := b_iff d3 b3
    rw [this] at d1
    exact ⟨C, D, c1, d1, v_frt (by decide) (by decide) (v_frt (by decide) (by decide) (v_frt (W := fwV) (O := [(64, 0)]) (by decide) (by decide) v_frR fG) c2) d2, c3.keep d2 (by decide) (by decide)⟩
  unfold f_X11_fewest f_X12_fewest
  rw [a1, Option.bind_some]
  rw [show ov6 none = -1 from rfl] at b1
  rw [b1, Option.bind_some]
  simp only [v01_0]
  cases hb : b with
  | false =>
    rw [if_neg (by decide)]
    obtain ⟨C, D, g1, g2, g3, g4⟩ := ref B fB
    refine ⟨_, B, D, rfl, ?_, g3⟩
    rw [g1, Option.bind_some, g2, Option.bind_some, hb]
    rfl
  | true =>
    rw [if_pos rfl]
    obtain ⟨E, e1, e2⟩ := e_lf hN hSB
    have fE : v_fr fwW [(64, 0)] M E := v_frt (by decide) (by decide) fB e2
    obtain ⟨C, D, g1, g2, g3, g4⟩ := ref E fE
    refine ⟨_, E, D, by rw [e1]; rfl, ?_, g3⟩
    rw [g1, Option.bind_some, g2, Option.bind_some, hb, v01_0, if_pos rfl]
    have r := r_few2 hN g4 n 0 N (by omega) (by omega)
    rw [show nI (ssm (alN (fun s => !decide (M.1 55 s ≤ LNO M ns (wkO M s))) (tfO M) n) 0) = 0 from rfl, show nI 0 = 0 from rfl, nI_sub (alN_all (fun s hs => (g4.2.1 s hs).2.1.2) n (Nat.le_refl _)) (by omega)] at r
    exact r
theorem Sat.ok {n : Nat} {wk tf : Nat → Nat} {ok ok' : Nat → Bool} {pr : Nat → Nat} {D : Nat → Bool} (h : Sat n wk tf ok pr D) (e : ∀ s, s < n → ok s = true → ok' s = true) : Sat n wk tf ok' pr D := by
  obtain ⟨c, h1, h2⟩ := h
  exact ⟨c, fun w hw hD => ⟨(h1 w hw hD).1, (h1 w hw hD).2.1, e _ (h1 w hw hD).1 (h1 w hw hD).2.2⟩, h2⟩
theorem st_sure {N : Nat} (hN : 300 ≤ N) (x1 : Int32) {M : v_M} {nm n ns : Nat} (h20 : nm ≤ 20) (h : J_stac M nm n) (he : J_seenc M nm ns) : ∃ (r : Int32) (M1 M2 : v_M), f_X11_sure N x1 M = some (r, M1) ∧ f_X12_sure N x1 M1 = some (r, M2) ∧ v_fr fwV [(64, 0)] M M2 := by
  have h200 : n ≤ 200 := h.1
  have e60 : M.1 79 60 = nI n := h.2.2.1
  unfold f_X11_sure f_X12_sure
  rw [e_within, Option.bind_some, h.2.1]
  by_cases a : 0 ≤ x1 ∧ x1 ≤ nI n - 1
  rotate_left
  · rw [v_wiFe a]
    refine ⟨_, M, M, rfl, ?_, v_frR⟩
    rw [l_0, e_in2, Option.bind_some, e60, v_wiFe a]
  rw [v_wiTe a]
  obtain ⟨s, sn, rfl⟩ := i_idx (by omega) a
  obtain ⟨A, a1, a2, a3⟩ := st_learn hN h20 h he
  obtain ⟨b, B, b1, b2, b3⟩ := e_canB hN (-1) none (fun s z => nomatch z) a3
  have fB : v_fr fwW [(64, 0)] M B := v_frt (by decide) (by decide) (v_frt (by decide) (by decide) v_frR a2) b2
  have hSB := a3.keep b2 (by decide) (by decide)
  rw [show ov6 none = -1 from rfl] at b1
  -- the reference, from any memory behind the class's
  have ref : ∀ G, v_fr fwW [(64, 0)] M G → ∃ (C D E F : v_M) (c1 c2 : Bool), f_X12_looks N G = some (0, C) ∧ f_X12_canBe N (-1) (-1) C = some (v01 b, D) ∧ v_fr fwV [(64, 0)] M D ∧ f_X12_canBe N (nI s) (-1) D = some (v01 c1, E) ∧ v_fr fwV [(64, 0)] M E ∧ (c1 = true ↔ CanB n (wkO M) (tfO M) (M.1 55) (LNO M ns) (fdO M ns) (nI s) none) ∧ E.1 132 s = v01 (!decide (M.1 55 s ≤ LNO M ns (wkO M s))) ∧ f_X12_canBe N (-1) (nI s) E = some (v01 c2, F) ∧ v_fr fwV [(64, 0)] M F ∧ (c2 = true ↔ CanB n (wkO M) (tfO M) (M.1 55) (LNO M ns) (fdO M ns) (-1) (some s)) := fun G fG => by
    obtain ⟨C, c1, c2, c3⟩ := st_looks hN h20 h he fG (by decide)
    obtain ⟨b', D, d1, d2, d3⟩ := e_canR hN (-1) none (fun s z => nomatch z) c3
    have : b' = b := b_iff d3 b3
    rw [this] at d1
    have hD := c3.keep d2 (by decide) (by decide)
    obtain ⟨k1, E, e1, e2, e3⟩ := e_canR hN (nI s) none (fun s z => nomatch z) hD
    have hE := hD.keep e2 (by decide) (by decide)
    obtain ⟨k2, F, f1, f2, f3⟩ := e_canR hN (-1) (some s) (fun s' z => by rw [← Option.some.inj z]; exact sn) hE
    have fD : v_fr fwV [(64, 0)] M D := v_frt (by decide) (by decide) (v_frt (by decide) (by decide) (v_frt (W := fwV) (O := [(64, 0)]) (by decide) (by decide) v_frR fG) c2) d2
    have fE : v_fr fwV [(64, 0)] M E := v_frt (by decide) (by decide) fD e2
    exact ⟨C, D, E, F, k1, k2, c1, d1, fD, e1, fE, e3, (hE.2.1 s sn).2.2.2.1, f1, v_frt (by decide) (by decide) fE f2, f3⟩
  rw [a1, Option.bind_some, b1, Option.bind_some]
  have fin : ∀ G, v_fr fwW [(64, 0)] M G → f_X12_in N (nI s).toInt64 (0 : Int64) (G.1 79 60 - 1).toInt64 G = some (1, G) := fun G fG => by
    rw [l_0, e_in2, v_keepC fG 79 60 (by decide), e60, v_wiT a]
  cases hb : b with
  | false =>
    rw [v01_0, if_neg (by decide)]
    obtain ⟨C, D, E, F, k1, k2, g1, g2, g3, -⟩ := ref B fB
    refine ⟨_, B, D, rfl, ?_, g3⟩
    rw [fin B fB, Option.bind_some, if_neg (show ¬ (1 : Int32) = 0 by decide), g1, Option.bind_some, g2, Option.bind_some, hb]
    rfl
  | true =>
    rw [v01_0, if_pos rfl, e_serves N hSB sn, Option.bind_some, v01_0]
    -- the class's last question, from a memory at which it stands
    have l82 : ∀ G, v_fr fwW [(64, 0)] M G → SC G n (wkO M) (tfO M) (M.1 55) (LNO M ns) (fdO M ns) → ∃ (H : v_M) (k : Bool), f_X11_sure_L82 N (nI s) G = some ((if (!decide (M.1 55 s ≤ LNO M ns (wkO M s))) = true then (if k = true then 0 else 2) else 2), H) ∧ v_fr fwW [(64, 0)] M H ∧ ((!decide (M.1 55 s ≤ LNO M ns (wkO M s))) = true → (k = true ↔ CanB n (wkO M) (tfO M) (M.1 55) (LNO M ns) (fdO M ns) (-1) (some s))) := fun G fG hG => by
      unfold f_X11_sure_L82
      rw [e_may N hG sn, Option.bind_some, v01_0]
      by_cases c : (!decide (M.1 55 s ≤ LNO M ns (wkO M s))) = true
      · simp only [if_pos c]
        obtain ⟨k, H, h1, h2, h3⟩ := e_canB hN (-1) (some s) (fun s' z => by rw [← Option.some.inj z]; exact sn) hG
        rw [show ov6 (some s) = nI s from rfl] at h1
        refine ⟨H, k, ?_, v_frt (by decide) (by decide) fG h2, fun _ => h3⟩
        rw [h1, Option.bind_some, v01_0]
        cases k <;> rfl
      · simp only [if_neg c]
        exact ⟨G, false, rfl, fG, fun z => absurd z c⟩
    -- put together
    have join : ∀ (G H : v_M) (k : Bool), v_fr fwW [(64, 0)] M H → ((!decide (M.1 55 s ≤ LNO M ns (wkO M s))) = true → (k = true ↔ CanB n (wkO M) (tfO M) (M.1 55) (LNO M ns) (fdO M ns) (-1) (some s))) → CanB n (wkO M) (tfO M) (M.1 55) (LNO M ns) (fdO M ns) (nI s) none → ∃ M2 : v_M, ((f_X12_in N (nI s).toInt64 (0 : Int64) (H.1 79 60 - 1).toInt64 H).bind fun z1 => if z1.1 = 0 then some ((-1 : Int32), z1.2) else ((f_X12_looks N z1.2).bind fun z2 => (f_X12_canBe N (-1) (-1) z2.2).bind fun z3 => if z3.1 = 0 then some ((-2 : Int32), z3.2) else ((f_X12_canBe N (nI s) (-1) z3.2).bind fun z4 => if z4.1 = 0 then some ((1 : Int32), z4.2) else (v_ck (v_ib (nI s) 200) <| if z4.2.1 132 (nI s).toNatClampNeg = 0 then some ((2 : Int32), z4.2) else ((f_X12_canBe N (-1) (nI s) z4.2).bind fun z5 => if z5.1 = 0 then some ((2 : Int32), z5.2) else some ((0 : Int32), z5.2)))))) = some ((if (!decide (M.1 55 s ≤ LNO M ns (wkO M s))) = true then (if k = true then 0 else 2) else 2), M2) ∧ v_fr fwV [(64, 0)] M M2 := fun G H k fH hk hc => by
      obtain ⟨C, D, E, F, k1, k2, g1, g2, g3, g4, g5, g6, g7, g8, g9, g10⟩ := ref H fH
      have k1t : k1 = true := g6.mpr hc
      rw [fin H fH, Option.bind_some, if_neg (show ¬ (1 : Int32) = 0 by decide), g1, Option.bind_some, g2, Option.bind_some, hb, v01_0, if_pos rfl, g4, Option.bind_some, k1t, v01_0, if_pos rfl, v_ibN (show s < 200 by omega) (show 200 < 2 ^ 31 by omega), v_ckT, nI_clamp (show s < 2 ^ 31 by omega), g7, v01_0]
      by_cases c : (!decide (M.1 55 s ≤ LNO M ns (wkO M s))) = true
      · rw [if_pos c, if_pos c, g8, Option.bind_some, v01_0]
        have : k2 = k := b_iff g10 (hk c)
        rw [this]
        refine ⟨F, ?_, g9⟩
        cases k <;> rfl
      · rw [if_neg c, if_neg c]
        exact ⟨E, rfl, g5⟩
    by_cases c1 : svB (wkO M) (M.1 55) (LNO M ns) (fdO M ns) s = true
    · rw [if_pos c1]
      obtain ⟨k1, G, g1, g2, g3⟩ := e_canB hN (nI s) none (fun s z => nomatch z) hSB
      rw [show ov6 none = -1 from rfl] at g1
      have fG : v_fr fwW [(64, 0)] M G := v_frt (by decide) (by decide) fB g2
      rw [g1, Option.bind_some, v01_0]
      cases hk1 : k1 with
      | false =>
        rw [if_neg (by decide)]
        obtain ⟨C, D, E, F, q1, q2, y1, y2, y3, y4, y5, y6, -⟩ := ref G fG
        have : q1 = k1 := b_iff y6 g3
        refine ⟨_, G, E, rfl, ?_, y5⟩
        rw [fin G fG, Option.bind_some, if_neg (show ¬ (1 : Int32) = 0 by decide), y1, Option.bind_some, y2, Option.bind_some, hb, v01_0, if_pos rfl, y4, Option.bind_some, this, hk1]
        rfl
      | true =>
        rw [if_pos rfl]
        obtain ⟨H, k, m1, m2, m3⟩ := l82 G fG (hSB.keep g2 (by decide) (by decide))
        obtain ⟨M2, j1, j2⟩ := join G H k m2 m3 (g3.mp hk1)
        exact ⟨_, H, M2, m1, j1, j2⟩
    · rw [if_neg c1]
      obtain ⟨H, k, m1, m2, m3⟩ := l82 B fB hSB
      have hc : CanB n (wkO M) (tfO M) (M.1 55) (LNO M ns) (fdO M ns) (nI s) none := by
        have h0 := b3.mp hb
        unfold CanB at h0 ⊢
        refine h0.ok (fun s' hs' z => ?_)
        unfold okB at z ⊢
        simp only [Bool.and_eq_true] at z ⊢
        refine ⟨z.1, ?_⟩
        have : ¬ nI s' = nI s := fun q => by
          have := (nI_eqX (by omega) (by omega)).mp q
          rw [this] at z
          exact c1 z.1
        rw [decide_eq_false this]
        rfl
      obtain ⟨M2, j1, j2⟩ := join B H k m2 m3 hc
      exact ⟨_, H, M2, m1, j1, j2⟩
