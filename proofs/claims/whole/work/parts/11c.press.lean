/-! the class's farthest and press -/
def DrC (M : v_M) (D : Dw) (kd : Nat → Int32) (np : Nat) : Prop := M.1 1 0 = nI np ∧ ∀ i, i < np → M.1 2 i = kd i ∧ (0 < i → M.1 3 i = nI (D.dv i)) ∧ M.1 5 i = nI (D.tm i) ∧ M.1 6 i = nI (D.bb i) ∧ M.1 7 i = nI (D.lm i)
def DoC (M : v_M) (np : Nat) (g w e : Nat → Nat) (st mk : Nat → Int32) : Prop := ∀ i, i < np → M.1 19 i = nI (g i) ∧ M.1 22 i = nI (w i) ∧ M.1 24 i = nI (e i) ∧ M.1 20 i = st i ∧ M.1 21 i + M.1 23 i = mk i
theorem DrC.keep {W : List Nat} {O : List (Nat × Nat)} {M M' : v_M} {D : Dw} {kd : Nat → Int32} {np : Nat} (hf : v_fr W O M M') (hk : ([2, 3, 5, 6, 7].all (fun k => !(W.contains k || O.any (fun q => q.1 == k)))) = true) (h1 : (W.contains 1 || O.contains (1, 0)) = false) (h : DrC M D kd np) : DrC M' D kd np := by
  have e : ∀ k ∈ [2, 3, 5, 6, 7], M'.1 k = M.1 k := fun k hm => v_keepR hf k (by have := List.all_eq_true.mp hk k hm; simpa using this)
  unfold DrC at h ⊢
  rw [v_keepC hf 1 0 h1, e 2 (by decide), e 3 (by decide), e 5 (by decide), e 6 (by decide), e 7 (by decide)]
  exact h
theorem DoC.keep {W : List Nat} {O : List (Nat × Nat)} {M M' : v_M} {np : Nat} {g w e : Nat → Nat} {st mk : Nat → Int32} (hf : v_fr W O M M') (hk : ([19, 20, 21, 22, 23, 24].all (fun k => !(W.contains k || O.any (fun q => q.1 == k)))) = true) (h : DoC M np g w e st mk) : DoC M' np g w e st mk := by
  have e : ∀ k ∈ [19, 20, 21, 22, 23, 24], M'.1 k = M.1 k := fun k hm => v_keepR hf k (by have := List.all_eq_true.mp hk k hm; simpa using this)
  unfold DoC at h ⊢
  rw [e 19 (by decide), e 20 (by decide), e 21 (by decide), e 22 (by decide), e 23 (by decide), e 24 (by decide)]
  exact h
theorem v_mnN {a b : Nat} (ha : a < 2 ^ 31) (hb : b < 2 ^ 31) : v_mn (nI a) (nI b) = nI (min a b) := by
  unfold v_mn
  by_cases c : b < a
  · rw [if_pos (nI_lt c ha), Nat.min_eq_right (by omega)]
  · rw [if_neg (nI_nlt (by omega) hb), Nat.min_eq_left (by omega)]
theorem v_mx0 {a b : Nat} (ha : a < 2 ^ 30) (hb : b < 2 ^ 30) : v_mx 0 (nI a - nI b) = nI (a - b) := by
  unfold v_mx
  have := nI_subI ha hb
  by_cases c : 0 < nI a - nI b
  · rw [if_pos c]
    rw [i_lt, this, i0] at c
    rw [nI_sub (by omega) (by omega)]
  · rw [if_neg c]
    rw [i_lt, this, i0] at c
    rw [show a - b = 0 by omega]
    rfl
theorem v_mx0' {a b c : Nat} (ha : a < 2 ^ 29) (hb : b < 2 ^ 29) (hc : c < 2 ^ 29) : v_mx 0 (nI a - nI b - nI c) = nI (a - (b + c)) := by
  have ti : (nI a - nI b - nI c).toInt = (a : Int) - b - c := by
    rw [Jvm.Kit.i32_sub (by rw [nI_subI (by omega) (by omega), nI_toInt (by omega)]; omega) (by rw [nI_subI (by omega) (by omega), nI_toInt (by omega)]; omega), nI_subI (by omega) (by omega), nI_toInt (by omega)]
  unfold v_mx
  by_cases q : 0 < nI a - nI b - nI c
  · rw [if_pos q]
    rw [i_lt, ti, i0] at q
    rw [i_eq, ti, nI_toInt (by omega)]
    omega
  · rw [if_neg q]
    rw [i_lt, ti, i0] at q
    rw [show a - (b + c) = 0 by omega]
    rfl
theorem nI_m1 (p : Nat) : nI (p + 1) + (-1) = nI p := by
  rw [← nI_1 p]
  show nI p + 1 + (-1) = nI p
  rw [Int32.add_assoc]
  exact Int32.add_zero _
theorem mst_le {D : Dw} {X : Dx} {al : Nat → Nat} {p : Nat} (hl : D.lm p ≤ 999) : mst D X al p ≤ 1000000 := by
  unfold mst
  split <;> split <;> omega
theorem e_most (N : Nat) {D : Dw} {kd st mk : Nat → Int32} {g w e al : Nat → Nat} {np p : Nat} (x3 : Int32) (hD : DwB D np) (hB : DoB np g w e) (hp : p < np) {M : v_M} (hR : DrC M D kd np) (hO : DoC M np g w e st mk) (ha : M.1 27 p = nI (al p)) (hb : al p ≤ 1000000) : f_X2_mostAsked N (nI p) x3 M = some (nI (mst D (dX g w e kd st x3) al p), M) := by
  have h24 := hD.1
  obtain ⟨d1, d2, d3, d4⟩ := hD.2 p hp
  obtain ⟨q1, q2, q3, q4, q5⟩ := hR.2 p hp
  obtain ⟨o1, o2, o3, o4, o5⟩ := hO p hp
  obtain ⟨b1, b2, b3⟩ := hB.1 p hp
  have key : ∀ c : Bool, f_X2_mostAsked_L25 N (nI p) (v01 c) M = some (nI (if al p + e p < D.lm p then min (if c then 1000000 else D.lm p) (al p + e p) else (if c then 1000000 else D.lm p)), M) := fun c => by
    have k2 : ∀ t : Nat, t ≤ 1000000 → f_X2_mostAsked_L43 N (nI p) (nI t) M = some (nI (if al p + e p < D.lm p then min t (al p + e p) else t), M) := fun t ht => by
      unfold f_X2_mostAsked_L43
      simp only [v_ibN (show p < 24 by omega) (show 24 < 2 ^ 31 by omega), nI_clamp (show p < 2 ^ 31 by omega), v_ckT, v_letE, q5, o3, ha]
      have ti := nI_subI (a := D.lm p) (b := e p) (by omega) (by omega)
      by_cases z : nI (D.lm p) - nI (e p) ≤ nI (al p)
      · rw [if_pos z]
        rw [i_le, ti, nI_toInt (by omega)] at z
        rw [if_neg (by omega)]
      · rw [if_neg z]
        rw [i_le, ti, nI_toInt (by omega)] at z
        rw [if_pos (by omega), nI_add, v_mnN (by omega) (by omega)]
    unfold f_X2_mostAsked_L25
    simp only [v_ibN (show p < 24 by omega) (show 24 < 2 ^ 31 by omega), nI_clamp (show p < 2 ^ 31 by omega), v_ckT, q5, v01_0]
    cases c with
    | true => exact k2 1000000 (by omega)
    | false => exact k2 (D.lm p) (by omega)
  unfold f_X2_mostAsked f_X2_mostAsked_L24
  simp only [v_ibN (show p < 24 by omega) (show 24 < 2 ^ 31 by omega), nI_clamp (show p < 2 ^ 31 by omega), v_ckT, q1, o4]
  have k0 := key false
  have k1 := key true
  rw [show v01 false = 0 from rfl] at k0
  rw [show v01 true = 1 from rfl] at k1
  rw [k0, k1]
  unfold mst
  show _ = some (nI (if al p + e p < D.lm p then min (if (decide (kd p = 1) && !decide (x3 < st p)) = true then 1000000 else D.lm p) (al p + e p) else (if (decide (kd p = 1) && !decide (x3 < st p)) = true then 1000000 else D.lm p)), M)
  by_cases c1 : kd p = 1
  · rw [if_pos c1, decide_eq_true c1, Bool.true_and]
    by_cases c2 : x3 < st p
    · rw [if_pos c2, decide_eq_true c2]; rfl
    · rw [if_neg c2, decide_eq_false c2]; rfl
  · rw [if_neg c1, decide_eq_false c1]; rfl
theorem fsp_le {D : Dw} {X : Dx} {p : Nat} {al : Nat → Nat} (h : ∀ i, al i ≤ 1000000) : ∀ i, fsp D X p al i ≤ 1000000 := fun i => by
  unfold fsp
  split
  · show (if i = D.dv p then _ else _) ≤ 1000000
    split
    · have := h (D.dv p); omega
    · exact h i
  · exact h i
theorem e_far1 (N : Nat) {D : Dw} {kd st mk : Nat → Int32} {g w e : Nat → Nat} {np : Nat} (x2 : Int32) (hD : DwB D np) (hB : DoB np g w e) : ∀ (p f : Nat) (al : Nat → Nat) (M : v_M), p < np → p < f → DrC M D kd np → DoC M np g w e st mk → (∀ i, i < np → M.1 27 i = nI (al i)) → (∀ i, al i ≤ 1000000) → ∃ M' : v_M, f_X2_farthest_L16 N f x2 (nI p) M = some (nI (min (D.lm 0) (fal D (dX g w e kd st x2) p al 0)), M') ∧ v_fr [27] [] M M' := by
  intro p
  induction p with
  | zero =>
    intro f al M hp hf hR hO ha hb
    obtain ⟨f, rfl⟩ : ∃ q, f = q + 1 := ⟨f - 1, by omega⟩
    obtain ⟨d1, d2, d3, d4⟩ := hD.2 0 hp
    have := hb 0
    rw [f_X2_farthest_L16, if_pos (show nI 0 ≤ 0 from nI_le (b := 0) (Nat.le_refl 0) (by omega)), show (0 : Int32).toNatClampNeg = 0 from rfl, show v_ib (0 : Int32) 24 = true from rfl, v_ckT, v_ckT, ha 0 hp, (hR.2 0 hp).2.2.2.2, v_mnN (by omega) (by omega)]
    exact ⟨M, rfl, v_frR⟩
  | succ p ih =>
    intro f al M hp hf hR hO ha hb
    obtain ⟨f, rfl⟩ : ∃ q, f = q + 1 := ⟨f - 1, by omega⟩
    have h24 := hD.1
    obtain ⟨d1, d2, d3, d4⟩ := hD.2 (p + 1) hp
    obtain ⟨q1, q2, q3, q4, q5⟩ := hR.2 (p + 1) hp
    obtain ⟨o1, o2, o3, o4, o5⟩ := hO (p + 1) hp
    obtain ⟨b1, b2, b3⟩ := hB.1 (p + 1) hp
    have dk := d1 (by omega)
    have em := e_most N x2 hD hB hp hR hO (ha (p + 1) hp) (hb (p + 1))
    have ml := mst_le (X := dX g w e kd st x2) (al := al) d4
    rw [f_X2_farthest_L16, if_neg (show ¬ nI (p + 1) ≤ 0 from nI_ge (a := 0) (by omega) (by omega))]
    simp only [v_ibN (show p + 1 < 24 by omega) (show 24 < 2 ^ 31 by omega), nI_clamp (show p + 1 < 2 ^ 31 by omega), v_ckT, v_letE, em, Option.bind_some, q2 (show 0 < p + 1 by omega), q3, q4, o1, o2, v_ibN (show D.dv (p + 1) < 24 by omega) (show 24 < 2 ^ 31 by omega), nI_clamp (show D.dv (p + 1) < 2 ^ 31 by omega), f_X2_farthest_L119, nI_m1]
    rw [show (1000000 : Int32) = nI 1000000 from rfl]
    have ef : fal D (dX g w e kd st x2) (p + 1) al = fal D (dX g w e kd st x2) p (fsp D (dX g w e kd st x2) (p + 1) al) := rfl
    have hb' := fsp_le (D := D) (X := dX g w e kd st x2) (p := p + 1) hb
    by_cases c : 1000000 ≤ mst D (dX g w e kd st x2) al (p + 1)
    · rw [if_pos (nI_le c (by omega)), ef]
      have : fsp D (dX g w e kd st x2) (p + 1) al = al := by unfold fsp; rw [if_neg (by omega)]
      rw [this]
      exact ih f al M (by omega) (by omega) hR hO ha hb
    · rw [if_neg (nI_ge (by omega) (by omega)), if_neg (show ¬ nI (D.tm (p + 1)) ≤ 0 from nI_ge (a := 0) (by omega) (by omega)), if_neg (show ¬ nI (D.dv (p + 1)) < 0 from nI_nlt (b := 0) (by omega) (by omega)), if_neg (nI_ge dk (by omega)), show v_nz (nI (D.tm (p + 1))) = true from by unfold v_nz; rw [decide_eq_true_iff]; exact fun z => by have := (nI_eqX (b := 0) (by omega) (by omega)).mp z; omega, v_ckT, ef]
      have fe : ∀ i, fsp D (dX g w e kd st x2) (p + 1) al i = if i = D.dv (p + 1) then min (al (D.dv (p + 1))) (g (p + 1) + w (p + 1) + ((mst D (dX g w e kd st x2) al (p + 1) + 1) * D.bb (p + 1) - 1) / D.tm (p + 1)) else al i := fun i => by unfold fsp; rw [if_pos (by omega)]; rfl
      generalize mst D (dX g w e kd st x2) al (p + 1) = ms at c ml fe
      have mb : (ms + 1) * D.bb (p + 1) ≤ 1000001 * 9 := Nat.mul_le_mul (by omega) d3.2
      have mb1 : 0 < (ms + 1) * D.bb (p + 1) := Nat.mul_pos (by omega) (by omega)
      have dl := Nat.div_le_self ((ms + 1) * D.bb (p + 1) - 1) (D.tm (p + 1))
      rw [nI_1, nI_mul, show (1 : Int32) = nI 1 from rfl, nI_sub (by omega) (by omega), nI_div (by omega) (by omega), nI_add, nI_add, ha (D.dv (p + 1)) (by omega), v_mnN (by have := hb (D.dv (p + 1)); omega) (by omega)]
      have fr : v_fr [27] [] M (v_wr M 27 (D.dv (p + 1)) (nI (min (al (D.dv (p + 1))) (g (p + 1) + w (p + 1) + ((ms + 1) * D.bb (p + 1) - 1) / D.tm (p + 1))))) := v_frw (by decide) v_frR
      obtain ⟨M', s1, s2⟩ := ih f (fsp D (dX g w e kd st x2) (p + 1) al) _ (by omega) (by omega) (hR.keep fr (by decide) (by decide)) (hO.keep fr (by decide)) (fun i hi => by
        rw [v_rd, fe]
        by_cases z : i = D.dv (p + 1)
        · rw [if_pos ⟨rfl, z⟩, if_pos z]
        · rw [if_neg (fun y => z y.2), if_neg z]; exact ha i hi) hb'
      exact ⟨M', s1, v_frT fr s2⟩
theorem e_fillA (N r n0 : Nat) (v : Int32) (h0 : n0 < 2 ^ 31) : ∀ (f i : Nat) (M : v_M), i ≤ n0 → n0 - i < f → ∃ M' : v_M, f_J7_fill_53178_L5 N r n0 f v (nI i) (nI n0) M = some (0, M') ∧ v_fr [r] [] M M' ∧ ∀ j, M'.1 r j = if i ≤ j ∧ j < n0 then v else M.1 r j := by
  intro f
  induction f with
  | zero => intro i M _ h; omega
  | succ f ih =>
    intro i M hi hf
    unfold f_J7_fill_53178_L5
    by_cases c : i = n0
    · subst c
      rw [if_pos (nI_le (Nat.le_refl _) (by omega))]
      exact ⟨M, rfl, v_frR, fun j => by rw [if_neg (by omega)]⟩
    · rw [if_neg (nI_ge (show i < n0 by omega) (by omega))]
      obtain ⟨M', g1, g2, g3⟩ := ih (i + 1) (v_wr M r i v) (by omega) (by omega)
      refine ⟨M', ?_, v_frT (v_frw (List.mem_singleton.mpr rfl) v_frR) g2, fun j => ?_⟩
      · simp only [v_ibN (show i < n0 by omega) h0, v_ckT, v_letE, nI_clamp (show i < 2 ^ 31 by omega), nI_1]
        exact g1
      · rw [g3, v_rd]
        by_cases q : j = i
        · subst q
          rw [if_neg (by omega), if_pos ⟨rfl, rfl⟩, if_pos (by omega)]
        · rw [if_neg (show ¬ (r = r ∧ j = i) from fun z => q z.2)]
          by_cases w : i + 1 ≤ j ∧ j < n0
          · rw [if_pos w, if_pos (by omega)]
          · rw [if_neg w, if_neg (by omega)]
theorem e_fillAll {N n0 : Nat} (r : Nat) (v : Int32) (h0 : n0 < 2 ^ 31) (hN : n0 < N) (M : v_M) : ∃ M' : v_M, f_J7_fill_53178 N r n0 v M = some (0, M') ∧ v_fr [r] [] M M' ∧ ∀ j, M'.1 r j = if j < n0 then v else M.1 r j := by
  unfold f_J7_fill_53178
  obtain ⟨M', a, b, c⟩ := e_fillA N r n0 v h0 N 0 M (by omega) (by omega)
  refine ⟨M', a, b, fun j => ?_⟩
  rw [c]
  by_cases q : j < n0
  · rw [if_pos ⟨by omega, q⟩, if_pos q]
  · rw [if_neg (fun z => q z.2), if_neg q]
theorem e_far {N : Nat} (hN : 100 ≤ N) {D : Dw} {kd st mk : Nat → Int32} {g w e : Nat → Nat} {np : Nat} (x2 : Int32) (hD : DwB D np) (hB : DoB np g w e) (hn : 0 < np) {M : v_M} (hR : DrC M D kd np) (hO : DoC M np g w e st mk) : ∃ M' : v_M, f_X2_farthest N x2 M = some (nI (far D (dX g w e kd st x2) np), M') ∧ v_fr [27] [] M M' := by
  have h24 := hD.1
  unfold f_X2_farthest
  obtain ⟨A, a1, fr, a3⟩ := e_fillAll (N := N) 27 1000000 (show 24 < 2 ^ 31 by omega) (by omega) M
  rw [a1, Option.bind_some, v_letE]
  have hR' := hR.keep fr (by decide) (by decide)
  obtain ⟨M', s1, s2⟩ := e_far1 N (kd := kd) (st := st) (mk := mk) x2 hD hB (np - 1) N (fun _ => 1000000) A (by omega) (by omega) hR' (hO.keep fr (by decide)) (fun i hi => by
    rw [a3, if_pos (by omega)]; rfl) (fun i => Nat.le_refl _)
  refine ⟨M', ?_, v_frT fr s2⟩
  rw [hR'.1, show (1 : Int32) = nI 1 from rfl, nI_sub (by omega) (by omega)]
  exact s1
theorem e_press1 (N : Nat) {D : Dw} {kd st mk : Nat → Int32} {g w e : Nat → Nat} {np h : Nat} (x2 : Int32) (hD : DwB D np) (hB : DoB np g w e) : ∀ (s k f : Nat) (M : v_M), k + s = np → 0 < k → s < f → DrC M D kd np → DoC M np g w e st mk → (∀ i, i < k → M.1 25 i = nI (plv D (dX g w e kd st x2) h i) ∧ M.1 26 i = nI (akd D (dX g w e kd st x2) h i)) → ∃ M' : v_M, f_X2_press_L31 N f (nI k) M = some (0, M') ∧ v_fr [25, 26] [] M M' ∧ (∀ i, i < np → M'.1 25 i = nI (plv D (dX g w e kd st x2) h i) ∧ M'.1 26 i = nI (akd D (dX g w e kd st x2) h i)) ∧ ∀ i, np ≤ i → M'.1 25 i = M.1 25 i := by
  intro s
  induction s with
  | zero =>
    intro k f M hk h0 hf hR hO hr
    obtain ⟨f, rfl⟩ : ∃ q, f = q + 1 := ⟨f - 1, by omega⟩
    have h24 := hD.1
    rw [f_X2_press_L31, hR.1, if_pos (nI_le (by omega) (by omega))]
    exact ⟨M, rfl, v_frR, fun i hi => hr i (by omega), fun i hi => rfl⟩
  | succ s ih =>
    intro k f M hk h0 hf hR hO hr
    obtain ⟨f, rfl⟩ : ∃ q, f = q + 1 := ⟨f - 1, by omega⟩
    have h24 := hD.1
    obtain ⟨d1, d2, d3, d4⟩ := hD.2 k (by omega)
    obtain ⟨q1, q2, q3, q4, q5⟩ := hR.2 k (by omega)
    obtain ⟨o1, o2, o3, o4, o5⟩ := hO k (by omega)
    obtain ⟨b1, b2, b3⟩ := hB.1 k (by omega)
    have dk := d1 (by omega)
    have pd := (hr (D.dv k) dk).1
    have pl := plv_le (X := dX g w e kd st x2) (h := h) hD (show D.dv k < np by omega)
    have ek := akd_s (X := dX g w e kd st x2) (h := h) hD (show k < np by omega) h0
    rw [show (dX g w e kd st x2).gw k = g k + w k from rfl] at ek
    have ab : akd D (dX g w e kd st x2) h k ≤ 8991 := by
      rw [ek]
      exact Nat.le_trans (Nat.div_le_self _ _) (Nat.le_trans (Nat.mul_le_mul (show plv D (dX g w e kd st x2) h (D.dv k) - (g k + w k) ≤ 999 by omega) d2.2) (by omega))
    have ea : v_mx 0 (M.1 25 (D.dv k) - M.1 19 k - M.1 22 k) * M.1 5 k / M.1 6 k = nI (akd D (dX g w e kd st x2) h k) := by
      rw [pd, o1, o2, v_mx0' (by omega) (by omega) (by omega), q3, q4, nI_mul, nI_div (Nat.lt_of_le_of_lt (Nat.mul_le_mul (show plv D (dX g w e kd st x2) h (D.dv k) - (g k + w k) ≤ 999 by omega) d2.2) (by omega)) (by omega), ek]
    have ep : v_mx 0 (v_mn (nI (akd D (dX g w e kd st x2) h k)) (M.1 7 k) - M.1 24 k) = nI (plv D (dX g w e kd st x2) h k) := by
      rw [q5, o3, v_mnN (by omega) (by omega), v_mx0 (by omega) (by omega)]
      rfl
    rw [f_X2_press_L31, hR.1, if_neg (nI_ge (show k < np by omega) (by omega))]
    simp only [v_ibN (show k < 24 by omega) (show 24 < 2 ^ 31 by omega), nI_clamp (show k < 2 ^ 31 by omega), v_ckT, v_letE, q2 h0, v_ibN (show D.dv k < 24 by omega) (show 24 < 2 ^ 31 by omega), nI_clamp (show D.dv k < 2 ^ 31 by omega), f_X2_press_L164, nI_1]
    rw [if_neg (show ¬ nI (D.dv k) < 0 from nI_nlt (b := 0) (by omega) (by omega)), if_neg (nI_ge dk (by omega)), if_pos (show (1 : Int32) ≤ M.1 6 k by rw [q4]; exact nI_le (a := 1) (by omega) (by omega)), show v_nz (M.1 6 k) = true from by unfold v_nz; rw [decide_eq_true_iff, q4]; exact fun z => by have := (nI_eqX (b := 0) (by omega) (by omega)).mp z; omega, v_ckT, ea]
    rw [v_rd, if_pos ⟨rfl, rfl⟩, v_rdn (by decide), v_rdn (by decide), ep]
    have fr : v_fr [25, 26] [] M (v_wr (v_wr M 26 k (nI (akd D (dX g w e kd st x2) h k))) 25 k (nI (plv D (dX g w e kd st x2) h k))) := v_frw (by decide) (v_frw (by decide) v_frR)
    obtain ⟨M', p1, p2, p3, p4⟩ := ih (k + 1) f _ (by omega) (by omega) (by omega) (hR.keep fr (by decide) (by decide)) (hO.keep fr (by decide)) (fun i hi => by
      by_cases q : i = k
      · subst q
        rw [v_rd, if_pos ⟨rfl, rfl⟩, v_rdn (by decide), v_rd, if_pos ⟨rfl, rfl⟩]
        exact ⟨rfl, rfl⟩
      · rw [v_rd, if_neg (fun z => q z.2), v_rdn (by decide), v_rdn (by decide), v_rd, if_neg (fun z => q z.2)]
        exact hr i (by omega))
    refine ⟨M', p1, v_frT fr p2, p3, fun i hi => ?_⟩
    rw [p4 i hi, v_rd, if_neg (fun z => by omega), v_rdn (by decide)]
theorem e_press {N : Nat} (hN : 100 ≤ N) {D : Dw} {kd st mk : Nat → Int32} {g w e : Nat → Nat} {np t : Nat} (x2 : Int32) (hD : DwB D np) (hB : DoB np g w e) (hn : 0 < np) (ht : t ≤ 999) {M : v_M} (hR : DrC M D kd np) (hO : DoC M np g w e st mk) : ∃ M' : v_M, f_X2_press N (nI t) x2 M = some (0, M') ∧ v_fr [25, 26, 27] [] M M' ∧ (∀ i, i < np → M'.1 25 i = nI (plv D (dX g w e kd st x2) (min t (far D (dX g w e kd st x2) np)) i) ∧ M'.1 26 i = nI (akd D (dX g w e kd st x2) (min t (far D (dX g w e kd st x2) np)) i)) ∧ ∀ i, np ≤ i → M'.1 25 i = M.1 25 i := by
  have h24 := hD.1
  have l0 := (hD.2 0 hn).2.2.2
  obtain ⟨A, a1, a2⟩ := e_far hN (kd := kd) (st := st) (mk := mk) x2 hD hB hn hR hO
  have fl : far D (dX g w e kd st x2) np ≤ D.lm 0 := by unfold far; omega
  unfold f_X2_press
  rw [a1, Option.bind_some]
  simp only [v_letE, show (0 : Int32).toNatClampNeg = 0 from rfl, show v_ib (0 : Int32) 24 = true from rfl, v_ckT, v_mnN (show t < 2 ^ 31 by omega) (show far D (dX g w e kd st x2) np < 2 ^ 31 by omega)]
  generalize hh : min t (far D (dX g w e kd st x2) np) = h
  have fr : v_fr [25, 26, 27] [] M (v_wr (v_wr A 26 0 (nI h)) 25 0 (nI h)) := v_frw (by decide) (v_frw (by decide) (v_frt (W := [25, 26, 27]) (O := []) (by decide) (by decide) v_frR a2))
  obtain ⟨M', p1, p2, p3, p4⟩ := e_press1 N (kd := kd) (st := st) (mk := mk) (h := h) x2 hD hB (np - 1) 1 N _ (by omega) (by omega) (by omega) (hR.keep fr (by decide) (by decide)) (hO.keep fr (by decide)) (fun i hi => by
    have : i = 0 := by omega
    subst this
    rw [v_rd, if_pos ⟨rfl, rfl⟩, v_rdn (by decide), v_rd, if_pos ⟨rfl, rfl⟩]
    refine ⟨?_, ?_⟩
    · unfold plv akd
      rw [if_pos rfl, show (dX g w e kd st x2).e 0 = 0 from hB.2, Nat.sub_zero, Nat.min_eq_left (by omega)]
    · unfold akd
      rw [if_pos rfl])
  refine ⟨M', p1, v_frT fr (v_frt (W := [25, 26, 27]) (O := []) (by decide) (by decide) v_frR p2), p3, fun i hi => ?_⟩
  rw [p4 i hi, v_rd, if_neg (fun z => by omega), v_rdn (by decide), v_keepR a2 25 (by decide)]
