/-! the reference's lets and pushes -/
def v01 (b : Bool) : Int32 := if b then 1 else 0
theorem v01_b (b : Bool) : v_b01 (v01 b) = true := by cases b <;> rfl
theorem v01_0 {b : Bool} {α : Type} (x y : α) : (if v01 b = 0 then x else y) = if b then y else x := by cases b <;> rfl
theorem nI_subI {a b : Nat} (ha : a < 2 ^ 30) (hb : b < 2 ^ 30) : (nI a - nI b).toInt = (a : Int) - b := by
  rw [Jvm.Kit.i32_sub (by rw [nI_toInt (by omega), nI_toInt (by omega)]; omega) (by rw [nI_toInt (by omega), nI_toInt (by omega)]; omega), nI_toInt (by omega), nI_toInt (by omega)]
theorem nI_sub0 {a b : Nat} (ha : a < 2 ^ 30) (hb : b < 2 ^ 30) : (0 ≤ nI a - nI b) ↔ b ≤ a := by
  rw [i_le, nI_subI ha hb, i0]
  omega
theorem nI_leX {a b : Nat} (ha : a < 2 ^ 31) (hb : b < 2 ^ 31) : (nI a ≤ nI b) ↔ a ≤ b := by
  rw [i_le, nI_toInt ha, nI_toInt hb]
  omega
theorem nI_ltX {a b : Nat} (ha : a < 2 ^ 31) (hb : b < 2 ^ 31) : (nI a < nI b) ↔ a < b := by
  rw [i_lt, nI_toInt ha, nI_toInt hb]
  omega
theorem nI_eqX {a b : Nat} (ha : a < 2 ^ 31) (hb : b < 2 ^ 31) : (nI a = nI b) ↔ a = b := by
  rw [i_eq, nI_toInt ha, nI_toInt hb]
  omega
def DrR (M : v_M) (D : Dw) (kd : Nat → Int32) (np : Nat) : Prop := M.1 79 2 = nI np ∧ ∀ i, i < np → M.1 80 i = kd i ∧ (0 < i → M.1 81 i = nI (D.dv i)) ∧ M.1 83 i = nI (10 * D.tm i + D.bb i) ∧ M.1 84 i = nI (D.lm i)
def DoR (M : v_M) (np : Nat) (g w e : Nat → Nat) (st mk : Nat → Int32) : Prop := ∀ i, i < np → M.1 94 i = nI (g i) ∧ M.1 97 i = nI (w i) ∧ M.1 98 i = nI (e i) ∧ M.1 96 i = st i ∧ M.1 95 i = mk i
def DoB (np : Nat) (g w e : Nat → Nat) : Prop := (∀ i, i < np → g i ≤ 999 ∧ w i ≤ 999 ∧ e i ≤ 9999) ∧ e 0 = 0
def dX (g w e : Nat → Nat) (kd st : Nat → Int32) (x2 : Int32) : Dx := ⟨fun i => g i + w i, e, fun i => decide (kd i = 1) && !decide (x2 < st i)⟩
theorem DrR.keep {W : List Nat} {O : List (Nat × Nat)} {M M' : v_M} {D : Dw} {kd : Nat → Int32} {np : Nat} (hf : v_fr W O M M') (hk : ([80, 81, 83, 84].all (fun k => !(W.contains k || O.any (fun q => q.1 == k)))) = true) (h1 : (W.contains 79 || O.contains (79, 2)) = false) (h : DrR M D kd np) : DrR M' D kd np := by
  have e : ∀ k ∈ [80, 81, 83, 84], M'.1 k = M.1 k := fun k hm => v_keepR hf k (by have := List.all_eq_true.mp hk k hm; simpa using this)
  unfold DrR at h ⊢
  rw [v_keepC hf 79 2 h1, e 80 (by decide), e 81 (by decide), e 83 (by decide), e 84 (by decide)]
  exact h
theorem DoR.keep {W : List Nat} {O : List (Nat × Nat)} {M M' : v_M} {np : Nat} {g w e : Nat → Nat} {st mk : Nat → Int32} (hf : v_fr W O M M') (hk : ([94, 95, 96, 97, 98].all (fun k => !(W.contains k || O.any (fun q => q.1 == k)))) = true) (h : DoR M np g w e st mk) : DoR M' np g w e st mk := by
  have e : ∀ k ∈ [94, 95, 96, 97, 98], M'.1 k = M.1 k := fun k hm => v_keepR hf k (by have := List.all_eq_true.mp hk k hm; simpa using this)
  unfold DoR at h ⊢
  rw [e 94 (by decide), e 95 (by decide), e 96 (by decide), e 97 (by decide), e 98 (by decide)]
  exact h
theorem e_l163 (N : Nat) (K : Int32 → Int32 → Int32 → Int32 → v_M → Option (Int32 × v_M)) (x1 x2 : Int32) (b : Bool) {D : Dw} {kd st : Nat → Int32} {k a v : Nat} (M : v_M) (hk : k < 24) (ha : a < 2 ^ 31) (hl : D.lm k < 2 ^ 31) (r1 : M.1 100 k = nI a) (r2 : M.1 84 k = nI (D.lm k)) (r3 : M.1 80 k = kd k) (r4 : M.1 96 k = st k) : f_X12_lets_L163 N K x1 x2 (v01 b) (nI k) (nI v) (nI k) M = K x1 x2 (v01 (b && (decide (a ≤ D.lm k) || (decide (kd k = 1) && !decide (x2 < st k))))) (nI (k + 1)) (v_wr M 99 k (nI v)) := by
  unfold f_X12_lets_L163
  simp only [v_ibN (show k < 24 by omega) (show 24 < 2 ^ 31 by omega), nI_clamp (show k < 2 ^ 31 by omega), v_ckT, v_letE, v_rdn, ne_eq, Nat.reduceEqDiff, not_false_eq_true, r1, r2, r3, r4, nI_leX ha hl, v01_0, f_X12_lets_L211, f_X12_lets_L207, f_X12_lets_L212, nI_1]
  cases b with
  | false => rw [if_neg (by decide)]; rfl
  | true =>
    rw [if_pos rfl, Bool.true_and]
    by_cases c1 : a ≤ D.lm k
    · rw [if_pos c1, decide_eq_true c1]; rfl
    · rw [if_neg c1, decide_eq_false c1, Bool.false_or]
      by_cases c2 : kd k = 1
      · rw [if_pos c2, decide_eq_true c2, Bool.true_and]
        by_cases c3 : x2 < st k
        · rw [if_pos c3, decide_eq_true c3]; rfl
        · rw [if_neg c3, decide_eq_false c3]; rfl
      · rw [if_neg c2, decide_eq_false c2]; rfl
theorem e_l101 (N : Nat) (K : Int32 → Int32 → Int32 → Int32 → v_M → Option (Int32 × v_M)) (x1 x2 : Int32) (b : Bool) {D : Dw} {kd st : Nat → Int32} {e : Nat → Nat} {k a : Nat} (M : v_M) (hk : k < 24) (ha : a ≤ 8991) (hl : D.lm k ≤ 999) (he : e k ≤ 9999) (r2 : M.1 84 k = nI (D.lm k)) (r3 : M.1 80 k = kd k) (r4 : M.1 96 k = st k) (r5 : M.1 98 k = nI (e k)) : f_X12_lets_L101 N K x1 x2 (v01 b) (nI k) (nI a) (nI k) M = K x1 x2 (v01 (b && (decide (a ≤ D.lm k) || (decide (kd k = 1) && !decide (x2 < st k))))) (nI (k + 1)) (v_wr (v_wr M 100 k (nI a)) 99 k (nI (min a (D.lm k) - e k))) := by
  have r1 : (v_wr M 100 k (nI a)).1 100 k = nI a := by rw [v_rd, if_pos ⟨rfl, rfl⟩]
  have s2 : (v_wr M 100 k (nI a)).1 84 k = nI (D.lm k) := by rw [v_rdn (by decide), r2]
  have s3 : (v_wr M 100 k (nI a)).1 80 k = kd k := by rw [v_rdn (by decide), r3]
  have s4 : (v_wr M 100 k (nI a)).1 96 k = st k := by rw [v_rdn (by decide), r4]
  have s5 : (v_wr M 100 k (nI a)).1 98 k = nI (e k) := by rw [v_rdn (by decide), r5]
  have key : ∀ t : Nat, t ≤ 8991 → f_X12_lets_L136 N K x1 x2 (v01 b) (nI k) (nI t) (v_wr M 100 k (nI a)) = K x1 x2 (v01 (b && (decide (a ≤ D.lm k) || (decide (kd k = 1) && !decide (x2 < st k))))) (nI (k + 1)) (v_wr (v_wr M 100 k (nI a)) 99 k (nI (t - e k))) := fun t ht => by
    unfold f_X12_lets_L136
    simp only [v_ibN (show k < 24 by omega) (show 24 < 2 ^ 31 by omega), nI_clamp (show k < 2 ^ 31 by omega), v_ckT, v_letE, s5]
    by_cases c : e k ≤ t
    · rw [if_pos ((nI_sub0 (by omega) (by omega)).mpr c), nI_sub c (by omega), e_l163 N K x1 x2 b _ hk (by omega) (by omega) r1 s2 s3 s4]
    · rw [if_neg (fun z => c ((nI_sub0 (by omega) (by omega)).mp z)), show (0 : Int32) = nI (t - e k) by rw [Nat.sub_eq_zero_of_le (by omega)]; rfl, e_l163 N K x1 x2 b _ hk (by omega) (by omega) r1 s2 s3 s4]
  unfold f_X12_lets_L101
  simp only [v_ibN (show k < 24 by omega) (show 24 < 2 ^ 31 by omega), nI_clamp (show k < 2 ^ 31 by omega), v_ckT, v_letE, r1, s2]
  by_cases c : D.lm k ≤ a
  · rw [if_pos (nI_le c (by omega)), key _ (by omega), Nat.min_eq_right c]
  · rw [if_neg (nI_ge (by omega) (by omega)), key _ (by omega), Nat.min_eq_left (by omega)]
def alk (D : Dw) (X : Dx) (h : Nat) : Nat → Nat → Bool
  | 0, _ => true
  | s + 1, k => (decide (akd D X h k ≤ D.lm k) || X.wk k) && alk D X h s (k + 1)
theorem alk_ok {D : Dw} {X : Dx} {h : Nat} : ∀ s k : Nat, alk D X h s k = true ↔ ∀ i, k ≤ i → i < k + s → okk D X h i := by
  intro s
  induction s with
  | zero => intro k; constructor
            · intro _ i a b; omega
            · intro _; rfl
  | succ s ih =>
    intro k
    rw [alk, Bool.and_eq_true, Bool.or_eq_true, decide_eq_true_iff, ih]
    constructor
    · rintro ⟨a, b⟩ i h1 h2
      by_cases q : i = k
      · rw [q]; exact a
      · exact b i (by omega) (by omega)
    · intro a
      exact ⟨a k (Nat.le_refl _) (by omega), fun i h1 h2 => a i (by omega) (by omega)⟩
theorem d_share {t b : Nat} (h1 : 1 ≤ t ∧ t ≤ 9) (h2 : 1 ≤ b ∧ b ≤ 9) : nI (10 * t + b) / 10 = nI t ∧ nI (10 * t + b) - nI t * 10 = nI b := by
  have e : nI (10 * t + b) / 10 = nI t := by
    rw [show (10 : Int32) = nI 10 from rfl, nI_div (by omega) (by omega)]
    congr 1
    omega
  refine ⟨e, ?_⟩
  rw [show (10 : Int32) = nI 10 from rfl, nI_mul, nI_sub (by omega) (by omega)]
  congr 1
  omega
theorem e_lets1 (N : Nat) {D : Dw} {kd st mk : Nat → Int32} {g w e : Nat → Nat} {np h : Nat} (x2 : Int32) (hD : DwB D np) (hB : DoB np g w e) (hh : h ≤ 999) : ∀ (s k f : Nat) (b : Bool) (M : v_M), k + s = np → s < f → DrR M D kd np → DoR M np g w e st mk → (∀ i, i < k → M.1 99 i = nI (plv D (dX g w e kd st x2) h i) ∧ M.1 100 i = nI (akd D (dX g w e kd st x2) h i)) → ∃ M' : v_M, f_X12_lets_L5 N f (nI h) x2 (v01 b) (nI k) M = some (v01 (b && alk D (dX g w e kd st x2) h s k), M') ∧ v_fr [99, 100] [] M M' ∧ ∀ i, i < np → M'.1 99 i = nI (plv D (dX g w e kd st x2) h i) ∧ M'.1 100 i = nI (akd D (dX g w e kd st x2) h i) := by
  intro s
  induction s with
  | zero =>
    intro k f b M hk hf hR hO hr
    obtain ⟨f, rfl⟩ : ∃ q, f = q + 1 := ⟨f - 1, by omega⟩
    have h24 := hD.1
    rw [f_X12_lets_L5, hR.1, if_pos (nI_le (by omega) (by omega)), v01_b, v_ckT]
    exact ⟨M, by rw [alk, Bool.and_true], v_frR, fun i hi => hr i (by omega)⟩
  | succ s ih =>
    intro k f b M hk hf hR hO hr
    obtain ⟨f, rfl⟩ : ∃ q, f = q + 1 := ⟨f - 1, by omega⟩
    have h24 := hD.1
    obtain ⟨d1, d2, d3, d4⟩ := hD.2 k (by omega)
    obtain ⟨q1, q2, q3, q4⟩ := hR.2 k (by omega)
    obtain ⟨o1, o2, o3, o4, o5⟩ := hO k (by omega)
    obtain ⟨b1, b2, b3⟩ := hB.1 k (by omega)
    have al := akd_le (X := dX g w e kd st x2) (h := h) hD (show k < np by omega) hh
    have step : f_X12_lets_L5 N (f + 1) (nI h) x2 (v01 b) (nI k) M = f_X12_lets_L101 N (f_X12_lets_L5 N f) (nI h) x2 (v01 b) (nI k) (nI (akd D (dX g w e kd st x2) h k)) (nI k) M := by
      rw [f_X12_lets_L5, hR.1, if_neg (nI_ge (show k < np by omega) (by omega))]
      by_cases k0 : k = 0
      · subst k0
        rw [show nI 0 = 0 from rfl, if_pos rfl]
        unfold f_X12_lets_L51 akd
        rw [if_pos rfl, if_pos rfl]
      · have dk := d1 (by omega)
        have nk : ¬ nI k = 0 := fun z => k0 ((nI_eqX (b := 0) (by omega) (by omega)).mp z)
        have pd := (hr (D.dv k) dk).1
        have pl := plv_le (X := dX g w e kd st x2) (h := h) hD (show D.dv k < np by omega)
        have ek := akd_s (X := dX g w e kd st x2) (h := h) hD (show k < np by omega) (by omega)
        rw [if_neg nk]
        simp only [v_ibN (show k < 24 by omega) (show 24 < 2 ^ 31 by omega), nI_clamp (show k < 2 ^ 31 by omega), v_ckT, q2 (by omega), v_ibN (show D.dv k < 24 by omega) (show 24 < 2 ^ 31 by omega), nI_clamp (show D.dv k < 2 ^ 31 by omega), pd, o1, o2]
        unfold f_X12_lets_L51
        rw [if_neg nk]
        rw [ek, show (dX g w e kd st x2).gw k = g k + w k from rfl]
        generalize plv D (dX g w e kd st x2) h (D.dv k) = P at pl
        have ti : (nI P - nI (g k) - nI (w k)).toInt = (P : Int) - g k - w k := by
          rw [Jvm.Kit.i32_sub (by rw [nI_subI (by omega) (by omega), nI_toInt (by omega)]; omega) (by rw [nI_subI (by omega) (by omega), nI_toInt (by omega)]; omega), nI_subI (by omega) (by omega), nI_toInt (by omega)]
        by_cases c : 0 < nI P - nI (g k) - nI (w k)
        · rw [if_pos c]
          have c' := i_lt.mp c
          rw [ti, i0] at c'
          have e1 : nI P - nI (g k) - nI (w k) = nI (P - (g k + w k)) := by
            rw [i_eq, ti, nI_toInt (by omega)]; omega
          simp only [v_ibN (show k < 24 by omega) (show 24 < 2 ^ 31 by omega), nI_clamp (show k < 2 ^ 31 by omega), v_ckT, v_nz10, q3, d_share d2 d3]
          rw [show v_nz (nI (D.bb k)) = true from by unfold v_nz; rw [decide_eq_true_iff]; exact fun z => by have := (nI_eqX (b := 0) (by omega) (by omega)).mp z; omega, v_ckT, e1, nI_mul, nI_div (Nat.lt_of_le_of_lt (Nat.mul_le_mul (show P - (g k + w k) ≤ 999 by omega) d2.2) (by omega)) (by omega)]
        · rw [if_neg c]
          have c' : ¬ _ := fun z => c (i_lt.mpr z)
          rw [ti, i0] at c'
          rw [show P - (g k + w k) = 0 by omega, Nat.zero_mul, Nat.zero_div]
          rfl
    rw [step, e_l101 N (f_X12_lets_L5 N f) (nI h) x2 b M (by omega) al d4 b3 q4 q1 o4 o3]
    generalize ha : akd D (dX g w e kd st x2) h k = a at al
    have fr : v_fr [99, 100] [] M (v_wr (v_wr M 100 k (nI a)) 99 k (nI (min a (D.lm k) - e k))) := v_frw (by decide) (v_frw (by decide) v_frR)
    obtain ⟨M', p1, p2, p3⟩ := ih (k + 1) f (b && (decide (a ≤ D.lm k) || (decide (kd k = 1) && !decide (x2 < st k)))) _ (by omega) (by omega) (hR.keep fr (by decide) (by decide)) (hO.keep fr (by decide)) (fun i hi => by
      by_cases q : i = k
      · subst q
        rw [v_rd, if_pos ⟨rfl, rfl⟩, v_rdn (by decide), v_rd, if_pos ⟨rfl, rfl⟩]
        exact ⟨by unfold plv; rw [ha]; rfl, by rw [ha]⟩
      · rw [v_rd, if_neg (fun z => q z.2), v_rdn (by decide), v_rdn (by decide), v_rd, if_neg (fun z => q z.2)]
        exact hr i (by omega))
    refine ⟨M', ?_, v_frT fr p2, p3⟩
    rw [p1, alk, ha, Bool.and_assoc]
    rfl
theorem e_lets {N : Nat} (hN : 100 ≤ N) {D : Dw} {kd st mk : Nat → Int32} {g w e : Nat → Nat} {np h : Nat} (x2 : Int32) (hD : DwB D np) (hB : DoB np g w e) (hh : h ≤ 999) (hn : 0 < np) (k0 : kd 0 = 0) {M : v_M} (hR : DrR M D kd np) (hO : DoR M np g w e st mk) : ∃ M' : v_M, f_X12_lets N (nI h) x2 M = some (v01 (decide (h ≤ far D (dX g w e kd st x2) np)), M') ∧ v_fr [99, 100] [] M M' ∧ ∀ i, i < np → M'.1 99 i = nI (plv D (dX g w e kd st x2) h i) ∧ M'.1 100 i = nI (akd D (dX g w e kd st x2) h i) := by
  have h24 := hD.1
  obtain ⟨M', p1, p2, p3⟩ := e_lets1 N (mk := mk) x2 hD hB hh np 0 N true M (by omega) (by omega) hR hO (fun i hi => absurd hi (by omega))
  refine ⟨M', ?_, p2, p3⟩
  unfold f_X12_lets
  rw [show (1 : Int32) = v01 true from rfl, show (0 : Int32) = nI 0 from rfl, p1, Bool.true_and]
  congr 3
  rw [Bool.eq_iff_iff, alk_ok, decide_eq_true_iff, ← far_ok (X := dX g w e kd st x2) hD hn hB.2 (by show (decide (kd 0 = 1) && _) = false; rw [k0]; rfl)]
  constructor
  · intro q k hk; exact q k (by omega) (by omega)
  · intro q k _ hk; exact q k (by omega)
theorem e_pushes {N : Nat} (hN : 2000 ≤ N) {D : Dw} {kd st mk : Nat → Int32} {g w e : Nat → Nat} {np : Nat} (x2 : Int32) (hD : DwB D np) (hB : DoB np g w e) (hn : 0 < np) (k0 : kd 0 = 0) {t : Nat} (ht : t ≤ 999) : ∀ (f lo hi : Nat) (M : v_M), hi - lo < f → lo ≤ hi → hi ≤ 999 → lo ≤ min t (far D (dX g w e kd st x2) np) → min t (far D (dX g w e kd st x2) np) ≤ hi → hi ≤ t → DrR M D kd np → DoR M np g w e st mk → ∃ M' : v_M, f_X12_pushes_L5 N f x2 (nI lo) (nI hi) M = some (nI (min t (far D (dX g w e kd st x2) np)), M') ∧ v_fr [99, 100] [] M M' ∧ ∀ i, i < np → M'.1 99 i = nI (plv D (dX g w e kd st x2) (min t (far D (dX g w e kd st x2) np)) i) ∧ M'.1 100 i = nI (akd D (dX g w e kd st x2) (min t (far D (dX g w e kd st x2) np)) i) := by
  intro f
  generalize hF : far D (dX g w e kd st x2) np = F
  induction f with
  | zero => intro lo hi M h; omega
  | succ f ih =>
    intro lo hi M hf hle h9 h1 h2 h3 hR hO
    rw [f_X12_pushes_L5]
    by_cases c : hi ≤ lo
    · rw [if_pos (nI_le c (by omega))]
      have : min t F = lo := by omega
      rw [this]
      obtain ⟨M', p1, p2, p3⟩ := e_lets (show 100 ≤ N by omega) x2 hD hB (show lo ≤ 999 by omega) hn k0 hR hO
      rw [p1]
      exact ⟨M', rfl, p2, p3⟩
    · rw [if_neg (nI_ge (by omega) (by omega))]
      have em : (nI lo + nI hi + 1) / 2 = nI ((lo + hi + 1) / 2) := by
        rw [nI_add, nI_1, show (2 : Int32) = nI 2 from rfl, nI_div (by omega) (by omega)]
      obtain ⟨M', p1, p2, p3⟩ := e_lets (show 100 ≤ N by omega) x2 hD hB (show (lo + hi + 1) / 2 ≤ 999 by omega) hn k0 hR hO
      rw [show v_nz (2 : Int32) = true from rfl, v_ckT, v_letE, em, p1, Option.bind_some]
      simp only [v01_0, f_X12_pushes_L43, v_letE]
      rw [hF]
      have hR' := hR.keep p2 (by decide) (by decide)
      have hO' := hO.keep p2 (by decide)
      by_cases q : (lo + hi + 1) / 2 ≤ F
      · rw [decide_eq_true q, if_pos rfl]
        obtain ⟨M'', s1, s2, s3⟩ := ih ((lo + hi + 1) / 2) hi M' (by omega) (by omega) h9 (by omega) h2 h3 hR' hO'
        exact ⟨M'', s1, v_frT p2 s2, s3⟩
      · rw [decide_eq_false q, if_neg (by decide)]
        obtain ⟨M'', s1, s2, s3⟩ := ih lo ((lo + hi + 1) / 2 - 1) M' (by omega) (by omega) (by omega) h1 (by omega) (by omega) hR' hO'
        refine ⟨M'', ?_, v_frT p2 s2, s3⟩
        rw [← s1, show (1 : Int32) = nI 1 from rfl, nI_sub (by omega) (by omega)]
