/-! goes: hooks gathered -/
theorem sub_s (a b c : Int32) : a - b - c = a - (b + c) := by
  rw [Int32.sub_eq_add_neg a (b + c), Int32.neg_add, Int32.sub_eq_add_neg (-b) c, ← Int32.add_assoc, ← Int32.sub_eq_add_neg, ← Int32.sub_eq_add_neg]
def hkb (kd st pl mk : Nat → Int32) (ov : Nat → Bool) (k : Nat) : Option Nat := if kd k = 2 ∧ ov k = true then some (tN (st k + 5 * (pl k - mk k))) else none
theorem e_gath1 (N : Nat) {D : Dw} {kd st mk pl : Nat → Int32} {g w e : Nat → Nat} {np : Nat} (hD : DwB D np) (hK : KdB kd np) (hv : ∀ k, k < np → kd k = 2 → ovr kd D.dv pl mk k = true → st k + 5 * (pl k - mk k) = nI (tN (st k + 5 * (pl k - mk k))) ∧ tN (st k + 5 * (pl k - mk k)) ≤ 100000) : ∀ (s k f : Nat) (M : v_M), k + s = np → s < f → DrC M D kd np → DoC M np g w e st mk → (∀ i, i < np → M.1 25 i = pl i) → rwo (M.1 28) 0 (pre (hkb kd st pl mk (ovr kd D.dv pl mk)) k) → ∃ M' : v_M, f_X2_gatherHooks_L4 N f (nI (pre (hkb kd st pl mk (ovr kd D.dv pl mk)) k).length) (nI k) M = some (nI (pre (hkb kd st pl mk (ovr kd D.dv pl mk)) np).length, M') ∧ v_fr [28] [] M M' ∧ rwo (M'.1 28) 0 (pre (hkb kd st pl mk (ovr kd D.dv pl mk)) np) := by
  intro s
  have h24 := hD.1
  induction s with
  | zero =>
    intro k f M hk hf hR hO hp h
    obtain ⟨f, rfl⟩ : ∃ q, f = q + 1 := ⟨f - 1, by omega⟩
    have : k = np := by omega
    subst this
    rw [f_X2_gatherHooks_L4, hR.1, if_pos (nI_le (by omega) (by omega))]
    exact ⟨M, rfl, v_frR, h⟩
  | succ s ih =>
    intro k f M hk hf hR hO hp h
    obtain ⟨f, rfl⟩ : ∃ q, f = q + 1 := ⟨f - 1, by omega⟩
    have pl' := pre_le (hkb kd st pl mk (ovr kd D.dv pl mk)) k
    obtain ⟨o1, o2, o3, o4, o5⟩ := hO k (by omega)
    rw [f_X2_gatherHooks_L4, hR.1, if_neg (nI_ge (show k < np by omega) (by omega))]
    simp only [v_ibN (show k < 24 by omega) (show 24 < 2 ^ 31 by omega), nI_clamp (show k < 2 ^ 31 by omega), v_ibN (show (pre (hkb kd st pl mk (ovr kd D.dv pl mk)) k).length < 24 by omega) (show 24 < 2 ^ 31 by omega), nI_clamp (show (pre (hkb kd st pl mk (ovr kd D.dv pl mk)) k).length < 2 ^ 31 by omega), v_ckT, v_letE, (hR.2 k (by omega)).1, e_over1 N hD hK (show k < np by omega) hR hO hp, Option.bind_some, v01_0, f_X2_gatherHooks_L69, nI_1, sub_s, o5, o4, hp k (by omega)]
    by_cases c1 : kd k = 2
    · rw [if_pos c1]
      by_cases c2 : ovr kd D.dv pl mk k = true
      · rw [if_pos c2]
        obtain ⟨v1, v2⟩ := hv k (by omega) c1 c2
        have hb : hkb kd st pl mk (ovr kd D.dv pl mk) k = some (tN (st k + 5 * (pl k - mk k))) := if_pos ⟨c1, c2⟩
        have fr : v_fr [28] [] M (v_wr M 28 (pre (hkb kd st pl mk (ovr kd D.dv pl mk)) k).length (st k + 5 * (pl k - mk k))) := v_frw (by decide) v_frR
        have go := ih (k + 1) f (v_wr M 28 (pre (hkb kd st pl mk (ovr kd D.dv pl mk)) k).length (st k + 5 * (pl k - mk k))) (by omega) (by omega) (hR.keep fr (by decide) (by decide)) (hO.keep fr (by decide)) (fun i hi => by rw [v_rdn (by decide)]; exact hp i hi) (by
          rw [pre_s hb]
          exact rwo_a (rwo_u h (fun j hj => by rw [v_rd, if_neg (fun y => by omega)])) (by rw [v_rd, if_pos ⟨rfl, rfl⟩]; exact v1))
        rw [show (pre (hkb kd st pl mk (ovr kd D.dv pl mk)) (k + 1)).length = (pre (hkb kd st pl mk (ovr kd D.dv pl mk)) k).length + 1 by rw [pre_s hb, List.length_append]; rfl] at go
        obtain ⟨M', s1, s2, s3⟩ := go
        exact ⟨M', s1, v_frT fr s2, s3⟩
      · rw [if_neg c2]
        have hb : hkb kd st pl mk (ovr kd D.dv pl mk) k = none := if_neg (fun z => c2 z.2)
        have go := ih (k + 1) f M (by omega) (by omega) hR hO hp (by rw [pre_n hb]; exact h)
        rw [pre_n hb] at go
        exact go
    · rw [if_neg c1]
      have hb : hkb kd st pl mk (ovr kd D.dv pl mk) k = none := if_neg (fun z => c1 z.1)
      have go := ih (k + 1) f M (by omega) (by omega) hR hO hp (by rw [pre_n hb]; exact h)
      rw [pre_n hb] at go
      exact go
def o01 (o : Option Nat) : Nat := match o with
  | none => 0
  | some _ => 1
theorem e_gath2 (N : Nat) {D : Dw} {kd st mk pl : Nat → Int32} {g w e : Nat → Nat} {np : Nat} (x2 x3 : Int32) (hD : DwB D np) (hK : KdB kd np) (hv : ∀ k, k < np → kd k = 2 → ovr kd D.dv pl mk k = true → st k + 5 * (pl k - mk k) = nI (tN (st k + 5 * (pl k - mk k))) ∧ tN (st k + 5 * (pl k - mk k)) ≤ 100000) : ∀ (s k f : Nat) (M : v_M), k + s = np → s < f → DrR M D kd np → DoR M np g w e st mk → (∀ i, i < np → M.1 99 i = pl i ∧ M.1 85 i = st i) → (∀ i, i < k → M.1 106 i = ov6 (hkb kd st pl mk (ovr kd D.dv pl mk) i)) → ∃ M' : v_M, f_X12_goes_L45 N f x2 x3 (nI (pre (hkb kd st pl mk (ovr kd D.dv pl mk)) k).length) (nI k) M = f_X12_goes_L140 N N x2 x3 (nI (pre (hkb kd st pl mk (ovr kd D.dv pl mk)) np).length) 0 M' ∧ v_fr [106] [] M M' ∧ ∀ i, i < np → M'.1 106 i = ov6 (hkb kd st pl mk (ovr kd D.dv pl mk) i) := by
  intro s
  have h24 := hD.1
  induction s with
  | zero =>
    intro k f M hk hf hR hO hp h
    obtain ⟨f, rfl⟩ : ∃ q, f = q + 1 := ⟨f - 1, by omega⟩
    have : k = np := by omega
    subst this
    rw [f_X12_goes_L45, hR.1, if_pos (nI_le (by omega) (by omega))]
    exact ⟨M, rfl, v_frR, h⟩
  | succ s ih =>
    intro k f M hk hf hR hO hp h
    obtain ⟨f, rfl⟩ : ∃ q, f = q + 1 := ⟨f - 1, by omega⟩
    obtain ⟨o1, o2, o3, o4, o5⟩ := hO k (by omega)
    obtain ⟨t1, t2⟩ := hp k (by omega)
    have l109 : ∀ o : Option Nat, (∀ v, o = some v → v ≤ 100000) → f_X12_goes_L109 N (f_X12_goes_L45 N f) x2 x3 (nI (pre (hkb kd st pl mk (ovr kd D.dv pl mk)) k).length) (nI k) (ov6 o) (nI k) M = f_X12_goes_L45 N f x2 x3 (nI ((pre (hkb kd st pl mk (ovr kd D.dv pl mk)) k).length + o01 o)) (nI (k + 1)) (v_wr M 106 k (ov6 o)) := fun o ho => by
      unfold f_X12_goes_L109 f_X12_goes_L128
      simp only [v_ibN (show k < 24 by omega) (show 24 < 2 ^ 31 by omega), nI_clamp (show k < 2 ^ 31 by omega), v_ckT, v_letE, nI_1]
      rw [v_rd, if_pos (show 106 = 106 ∧ k = k from ⟨rfl, rfl⟩)]
      cases o with
      | none => rw [if_pos (show ov6 none = -1 from rfl), show (0 : Int32) = nI 0 from rfl, nI_add]; rfl
      | some v => rw [if_neg (ov6_n (ho v rfl))]; rfl
    have fin : ∀ o : Option Nat, hkb kd st pl mk (ovr kd D.dv pl mk) k = o → (∀ v, o = some v → v ≤ 100000) → ∃ M' : v_M, f_X12_goes_L109 N (f_X12_goes_L45 N f) x2 x3 (nI (pre (hkb kd st pl mk (ovr kd D.dv pl mk)) k).length) (nI k) (ov6 o) (nI k) M = f_X12_goes_L140 N N x2 x3 (nI (pre (hkb kd st pl mk (ovr kd D.dv pl mk)) np).length) 0 M' ∧ v_fr [106] [] M M' ∧ ∀ i, i < np → M'.1 106 i = ov6 (hkb kd st pl mk (ovr kd D.dv pl mk) i) := fun o hb ho => by
      rw [l109 o ho]
      have fr : v_fr [106] [] M (v_wr M 106 k (ov6 o)) := v_frw (by decide) v_frR
      have go := ih (k + 1) f (v_wr M 106 k (ov6 o)) (by omega) (by omega) (hR.keep fr (by decide) (by decide)) (hO.keep fr (by decide)) (fun i hi => by rw [v_rdn (by decide), v_rdn (by decide)]; exact hp i hi) (fun i hi => by
        rw [v_rd]
        by_cases q : i = k
        · rw [if_pos ⟨rfl, q⟩, q, hb]
        · rw [if_neg (fun y => q y.2)]; exact h i (by omega))
      have lg : (pre (hkb kd st pl mk (ovr kd D.dv pl mk)) (k + 1)).length = (pre (hkb kd st pl mk (ovr kd D.dv pl mk)) k).length + o01 o := by
        cases o with
        | none => rw [pre_n hb]; rfl
        | some v => rw [pre_s hb, List.length_append]; rfl
      rw [lg] at go
      obtain ⟨M', s1, s2, s3⟩ := go
      exact ⟨M', s1, v_frT fr s2, s3⟩
    rw [f_X12_goes_L45, hR.1, if_neg (nI_ge (show k < np by omega) (by omega))]
    simp only [v_ibN (show k < 24 by omega) (show 24 < 2 ^ 31 by omega), nI_clamp (show k < 2 ^ 31 by omega), v_ckT, v_letE, (hR.2 k (by omega)).1, e_over2 N hD hK (show k < np by omega) hR hO (fun i hi => (hp i hi).1), Option.bind_some, v01_0, f_X12_goes_L108, o5, t1, t2]
    by_cases c1 : kd k = 2
    · rw [if_pos c1]
      by_cases c2 : ovr kd D.dv pl mk k = true
      · obtain ⟨v1, v2⟩ := hv k (by omega) c1 c2
        rw [if_pos c2, v1]
        exact fin (some (tN (st k + 5 * (pl k - mk k)))) (if_pos ⟨c1, c2⟩) (fun v hv' => by rw [← Option.some.inj hv']; exact v2)
      · rw [if_neg c2]
        exact fin none (if_neg (fun z => c2 z.2)) (fun v hv' => nomatch hv')
    · rw [if_neg c1]
      exact fin none (if_neg (fun z => c1 z.1)) (fun v hv' => nomatch hv')
theorem st_goes {N : Nat} (hN : 2000 ≤ N) (x1 x2 x3 : Int32) {M : v_M} {np nm : Nat} (hd : J_drawc M np) (hf : J_fleetc M np nm) : ∃ (r : Int32) (M1 M2 : v_M), f_X11_goes N x1 x2 x3 M = some (r, M1) ∧ f_X12_goes N x1 x2 x3 M1 = some (r, M2) ∧ v_fr [19, 20, 21, 22, 23, 24, 25, 28, 94, 95, 96, 97, 98, 99, 106] [] M M2 := by
  have f1 := hf.1
  have f2 := hf.2.1
  have h20 : nm ≤ 20 := hf.2.2.1.1
  have h24 := hd.1
  unfold f_X11_goes f_X12_goes
  simp only [e_hasMachine, e_isMachine, e_within, l_1, l_99, l_999, e_in2, Option.bind_some, f1]
  by_cases a1 : 0 ≤ x1 ∧ x1 ≤ nI nm - 1
  rotate_left
  · rw [v_wiFe a1]
    refine ⟨_, M, M, rfl, ?_, v_frR⟩
    rw [f2, v_wiFe a1]
  rw [v_wiTe a1]
  by_cases a2 : 1 ≤ x2 ∧ x2 ≤ 99
  rotate_left
  · rw [v_wiFe a2]
    refine ⟨_, M, M, rfl, ?_, v_frR⟩
    rw [f2, v_wiTe a1, v_wiFe a2]
  rw [v_wiTe a2]
  by_cases a3 : 1 ≤ x3 ∧ x3 ≤ 999
  rotate_left
  · rw [v_wiFe a3]
    refine ⟨_, M, M, rfl, ?_, v_frR⟩
    rw [f2, v_wiTe a1, v_wiTe a2, v_wiFe a3]
  rw [v_wiTe a3]
  obtain ⟨m, hm, rfl⟩ := i_idx (by omega) a1
  have p0 : ∀ {x : Int32}, 1 ≤ x → 0 ≤ x := fun {x} h => by
    rw [i_le] at h ⊢
    rw [i1] at h
    rw [i0]
    omega
  obtain ⟨r, hr, rfl⟩ := i_idx (c := 100) (by omega) (show 0 ≤ x2 ∧ x2 ≤ nI 100 - 1 from ⟨p0 a2.1, a2.2⟩)
  obtain ⟨q, hq, rfl⟩ := i_idx (c := 1000) (by omega) (show 0 ≤ x3 ∧ x3 ≤ nI 1000 - 1 from ⟨p0 a3.1, a3.2⟩)
  have rq : r * q ≤ 99 * 999 := Nat.mul_le_mul (by omega) (by omega)
  obtain ⟨hD, hC, hR, hK⟩ := hd.dw
  obtain ⟨hB, hB2, hB3⟩ := J_door hd hf hm
  obtain ⟨A, p1, p2, p3, p4, p5, p6⟩ := J_load (N := N) hd hf hm
  have hv : ∀ k, k < np → M.1 2 k = 2 → ovr (M.1 2) (dwO M).dv (pO M m) (mO M m) k = true → M.1 8 k + 5 * (pO M m k - mO M m k) = nI (tN (M.1 8 k + 5 * (pO M m k - mO M m k))) ∧ tN (M.1 8 k + 5 * (pO M m k - mO M m k)) ≤ 100000 := fun k hk c1 c2 => by
    obtain ⟨p, hp, ep⟩ := hB3 k hk
    obtain ⟨-, ⟨-, -, -, -, -, b6, b7, -⟩, -⟩ := hd.2.2.2.1 k hk
    obtain ⟨-, s2, -⟩ := hf.2.2.1.2.2.1 (24 * m + k) (by omega)
    have em : (mO M m k).toInt = (M.1 9 k).toInt + (M.1 13 (24 * m + k)).toInt := by
      unfold mO
      rw [Jvm.Kit.i32_add (by have := b7.1; have := s2.1; omega) (by have := b7.2; have := s2.2; omega)]
    have lt : ¬ pO M m k < mO M m k := fun z => by
      unfold ovr at c2
      rw [if_neg (show ¬ M.1 2 k = 5 by rw [c1]; decide), decide_eq_true z] at c2
      exact absurd c2 (by decide)
    rw [ep, i_lt, nI_toInt (by omega), em] at lt
    have e1 : (pO M m k - mO M m k).toInt = (p : Int) - ((M.1 9 k).toInt + (M.1 13 (24 * m + k)).toInt) := by
      rw [Jvm.Kit.i32_sub (by rw [ep, nI_toInt (by omega), em]; have := b7.2; have := s2.2; omega) (by rw [ep, nI_toInt (by omega), em]; have := b7.1; have := s2.1; omega), ep, nI_toInt (by omega), em]
    have t5 : (5 : Int32).toInt = 5 := rfl
    have e2 : (5 * (pO M m k - mO M m k)).toInt = 5 * ((p : Int) - ((M.1 9 k).toInt + (M.1 13 (24 * m + k)).toInt)) := by
      rw [Jvm.Kit.i32_mul (by rw [t5, e1]; have := b7.2; have := s2.2; omega) (by rw [t5, e1]; have := b7.1; have := s2.1; omega), t5, e1]
    have e3 : (M.1 8 k + 5 * (pO M m k - mO M m k)).toInt = (M.1 8 k).toInt + 5 * ((p : Int) - ((M.1 9 k).toInt + (M.1 13 (24 * m + k)).toInt)) := by
      rw [Jvm.Kit.i32_add (by rw [e2]; have := b7.2; have := s2.2; have := b6.1; omega) (by rw [e2]; have := b7.1; have := s2.1; have := b6.2; omega), e2]
    have bt : v_bt (M.1 8 k + 5 * (pO M m k - mO M m k)) (0 : Nat) (100000 : Nat) := by
      unfold v_bt
      rw [e3]
      have := b7.1; have := s2.1; have := b6.2; have := b6.1; have := b7.2; have := s2.2
      omega
    have := tN_bt bt
    exact ⟨this.1, this.2.2⟩
  obtain ⟨B, q1, q2, q3⟩ := e_gath1 N hD hK hv np 0 N A (by omega) (by omega) p3 p4 p5 (fun j v e => by simp [pre] at e)
  have vb : ∀ i v, i < np → hkb (M.1 2) (M.1 8) (pO M m) (mO M m) (ovr (M.1 2) (dwO M).dv (pO M m) (mO M m)) i = some v → v ≤ 100000 := fun i v hi e => by
    unfold hkb at e
    by_cases c : M.1 2 i = 2 ∧ ovr (M.1 2) (dwO M).dv (pO M m) (mO M m) i = true
    · rw [if_pos c] at e
      rw [← Option.some.inj e]
      exact (hv i hi c.1 c.2).2
    · rw [if_neg c] at e
      exact nomatch e
  have pl := pre_le (hkb (M.1 2) (M.1 8) (pO M m) (mO M m) (ovr (M.1 2) (dwO M).dv (pO M m) (mO M m))) np
  obtain ⟨C, s1, s2⟩ := e_height (show 1000 ≤ N by omega) (rr := r * q) (by omega) 401 0 N (pre (hkb (M.1 2) (M.1 8) (pO M m) (mO M m) (ovr (M.1 2) (dwO M).dv (pO M m) (mO M m))) np) B (by omega) (by omega) (by omega) (pre_B np vb) q3
  have fC : v_fr [19, 20, 21, 22, 23, 24, 25, 28] [] M C := v_frt (by decide) (by decide) (v_frt (by decide) (by decide) (v_frt (W := [19, 20, 21, 22, 23, 24, 25, 28]) (O := []) (by decide) (by decide) v_frR p2) q2) s2
  obtain ⟨E, t1, t2, t3, t4, t5⟩ := J_take (show 100 ≤ N by omega) hd hf hm fC (by decide)
  obtain ⟨F, u1, u2, u3⟩ := e_gath2 N (nI r) (nI q) hD hK hv np 0 N E (by omega) (by omega) t3 t4 (fun i hi => ⟨t5 i hi, by rw [v_keepR t2 85 (by decide), v_keepR fC 85 (by decide)]; exact (hd.2.2.2.1 i hi).1.2.2.2.2.2.1⟩) (fun i hi => absurd hi (by omega))
  obtain ⟨G, y1, y2⟩ := e_goes2 (show 1000 ≤ N by omega) h24 (show r ≤ 99 by omega) (show q ≤ 999 by omega) 401 0 N (hkb (M.1 2) (M.1 8) (pO M m) (mO M m) (ovr (M.1 2) (dwO M).dv (pO M m) (mO M m))) F (by omega) (by omega) vb (by rw [v_keepR u2 79 (by decide), v_keepR t2 79 (by decide), v_keepR fC 79 (by decide)]; exact hd.2.2.1) u3
  refine ⟨gsp (r * q) 401 0 (pre (hkb (M.1 2) (M.1 8) (pO M m) (mO M m) (ovr (M.1 2) (dwO M).dv (pO M m) (mO M m))) np), C, G, ?_, ?_, v_frt (by decide) (by decide) (v_frt (by decide) (by decide) (v_frt (by decide) (by decide) (v_frt (W := [19, 20, 21, 22, 23, 24, 25, 28, 94, 95, 96, 97, 98, 99, 106]) (O := []) (by decide) (by decide) v_frR fC) t2) u2) y2⟩
  rotate_left
  · rw [v_keepR fC 79 (by decide), f2, v_wiTe a1, v_wiTe a2, v_wiTe a3, t1, Option.bind_some]
    rw [show nI 0 = 0 from rfl] at u1 y1
    rw [show nI (pre (hkb (M.1 2) (M.1 8) (pO M m) (mO M m) (ovr (M.1 2) (dwO M).dv (pO M m) (mO M m))) 0).length = 0 from rfl] at u1
    rw [u1]
    exact y1
  · rw [p1, Option.bind_some]
    unfold f_X2_heightItGoes f_X2_gatherHooks
    rw [show nI (pre (hkb (M.1 2) (M.1 8) (pO M m) (mO M m) (ovr (M.1 2) (dwO M).dv (pO M m) (mO M m))) 0).length = 0 from rfl, show nI 0 = 0 from rfl] at q1
    rw [show nI 0 = 0 from rfl] at s1
    rw [q1, Option.bind_some, v_letE, nI_mul, s1]
    rfl
