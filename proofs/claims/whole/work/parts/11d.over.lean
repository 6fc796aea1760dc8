/-! over its mark, shut, looks shut, unlike -/
def KdB (kd : Nat → Int32) (np : Nat) : Prop := ∀ i, i < np → (∃ j : Nat, j < 6 ∧ kd i = nI j) ∧ (i = 0 → kd i = 0)
def ovr (kd : Nat → Int32) (dv : Nat → Nat) (pl mk : Nat → Int32) (k : Nat) : Bool := !decide ((if kd k = 5 then pl (dv k) else pl k) < mk k)
theorem KdB.pos {kd : Nat → Int32} {np k : Nat} (h : KdB kd np) (hk : k < np) (h5 : kd k = 5) : 0 < k := by
  by_cases q : k = 0
  · have := (h k hk).2 q
    rw [this] at h5
    exact absurd h5 (by decide)
  · omega
theorem e_over1 (N : Nat) {D : Dw} {kd st mk pl : Nat → Int32} {g w e : Nat → Nat} {np k : Nat} (hD : DwB D np) (hK : KdB kd np) (hk : k < np) {M : v_M} (hR : DrC M D kd np) (hO : DoC M np g w e st mk) (hp : ∀ i, i < np → M.1 25 i = pl i) : f_X2_isOver N (nI k) M = some (v01 (ovr kd D.dv pl mk k), M) := by
  have h24 := hD.1
  obtain ⟨q1, q2, -⟩ := hR.2 k hk
  obtain ⟨-, -, -, -, o5⟩ := hO k hk
  have wk : (0 : Int32) ≤ nI k ∧ nI k ≤ 23 := ⟨nI_le (a := 0) (by omega) (by omega), nI_le (b := 23) (by omega) (by omega)⟩
  have fin : ∀ t : Int32, f_X2_isOver_L66 N (nI k) t M = some (v01 (!decide (t < mk k)), M) := fun t => by
    unfold f_X2_isOver_L66
    simp only [v_ibN (show k < 24 by omega) (show 24 < 2 ^ 31 by omega), nI_clamp (show k < 2 ^ 31 by omega), v_ckT, o5]
    by_cases c : t < mk k
    · rw [if_pos c, decide_eq_true c]; rfl
    · rw [if_neg c, decide_eq_false c]; rfl
  unfold f_X2_isOver f_X2_isOver_L43 f_X2_isOver_L44
  rw [e_within, Option.bind_some, v_wiTe wk]
  simp only [v_ibN (show k < 24 by omega) (show 24 < 2 ^ 31 by omega), nI_clamp (show k < 2 ^ 31 by omega), v_ckT, v_letE, q1, e_within, Option.bind_some]
  unfold ovr
  by_cases c : kd k = 5
  · have k0 := hK.pos hk c
    have dk := (hD.2 k hk).1 k0
    have wd : (0 : Int32) ≤ nI (D.dv k) ∧ nI (D.dv k) ≤ 23 := ⟨nI_le (a := 0) (by omega) (by omega), nI_le (b := 23) (by omega) (by omega)⟩
    rw [if_pos c, if_pos c, q2 k0, v_wiTe wd, if_neg (by decide), v_ibN (show D.dv k < 24 by omega) (show 24 < 2 ^ 31 by omega), v_ckT, nI_clamp (show D.dv k < 2 ^ 31 by omega), fin, hp _ (by omega)]
  · rw [if_neg c, if_neg c, if_pos trivial, fin, hp k hk]
theorem e_over2 (N : Nat) {D : Dw} {kd st mk pl : Nat → Int32} {g w e : Nat → Nat} {np k : Nat} (hD : DwB D np) (hK : KdB kd np) (hk : k < np) {M : v_M} (hR : DrR M D kd np) (hO : DoR M np g w e st mk) (hp : ∀ i, i < np → M.1 99 i = pl i) : f_X12_isOver N (nI k) M = some (v01 (ovr kd D.dv pl mk k), M) := by
  have h24 := hD.1
  obtain ⟨q1, q2, -⟩ := hR.2 k hk
  obtain ⟨-, -, -, -, o5⟩ := hO k hk
  have fin : ∀ j : Nat, j < np → f_X12_isOver_L24 N (nI k) (nI j) M = some (v01 (!decide (pl j < mk k)), M) := fun j hj => by
    unfold f_X12_isOver_L24
    simp only [v_ibN (show k < 24 by omega) (show 24 < 2 ^ 31 by omega), nI_clamp (show k < 2 ^ 31 by omega), v_ibN (show j < 24 by omega) (show 24 < 2 ^ 31 by omega), nI_clamp (show j < 2 ^ 31 by omega), v_ckT, o5, hp j hj]
    by_cases c : pl j < mk k
    · rw [if_pos c, decide_eq_true c]; rfl
    · rw [if_neg c, decide_eq_false c]; rfl
  unfold f_X12_isOver
  simp only [v_ibN (show k < 24 by omega) (show 24 < 2 ^ 31 by omega), nI_clamp (show k < 2 ^ 31 by omega), v_ckT, q1]
  unfold ovr
  by_cases c : kd k = 5
  · have k0 := hK.pos hk c
    have dk := (hD.2 k hk).1 k0
    rw [if_pos c, if_pos c, q2 k0, fin _ (by omega)]
  · rw [if_neg c, if_neg c, fin k hk]
def shb (kd : Nat → Int32) (ov : Nat → Bool) : Nat → Nat → Bool → Bool
  | 0, _, b => b
  | s + 1, k, b => if kd k = 2 then (if ov k then shb kd ov s (k + 1) true else false) else shb kd ov s (k + 1) b
def lkt (x : Int32) : Int32 := if x = 0 then 1 else if x ≤ 2 then 0 else (1 : Int32) <<< ((x - 2) &&& 31)
def lkb (kd : Nat → Int32) (ov : Nat → Bool) (x : Int32) : Nat → Nat → Bool
  | 0, _ => true
  | s + 1, k => if (x &&& lkt (kd k)) = 0 then lkb kd ov x s (k + 1) else (if ov k then lkb kd ov x s (k + 1) else false)
theorem e_shut1 (N : Nat) {D : Dw} {kd st mk pl : Nat → Int32} {g w e : Nat → Nat} {np : Nat} (hD : DwB D np) (hK : KdB kd np) {M : v_M} (hR : DrC M D kd np) (hO : DoC M np g w e st mk) (hp : ∀ i, i < np → M.1 25 i = pl i) : ∀ (s k f : Nat) (b : Bool), k + s = np → s < f → f_X2_isShut_L4 N f (v01 b) (nI k) M = some (v01 (shb kd (ovr kd D.dv pl mk) s k b), M) := by
  intro s
  have h24 := hD.1
  induction s with
  | zero =>
    intro k f b hk hf
    obtain ⟨f, rfl⟩ : ∃ q, f = q + 1 := ⟨f - 1, by omega⟩
    rw [f_X2_isShut_L4, hR.1, if_pos (nI_le (by omega) (by omega)), v01_b]
    rfl
  | succ s ih =>
    intro k f b hk hf
    obtain ⟨f, rfl⟩ : ∃ q, f = q + 1 := ⟨f - 1, by omega⟩
    rw [f_X2_isShut_L4, hR.1, if_neg (nI_ge (show k < np by omega) (by omega))]
    simp only [v_ibN (show k < 24 by omega) (show 24 < 2 ^ 31 by omega), nI_clamp (show k < 2 ^ 31 by omega), v_ckT, (hR.2 k (by omega)).1, e_over1 N hD hK (show k < np by omega) hR hO hp, Option.bind_some, v01_0, f_X2_isShut_L35, nI_1]
    have i1 := ih (k + 1) f true (by omega) (by omega)
    have i2 := ih (k + 1) f b (by omega) (by omega)
    rw [show v01 true = 1 from rfl] at i1
    rw [i1, i2, shb]
    by_cases c : kd k = 2
    · rw [if_pos c, if_pos c]
      cases ovr kd D.dv pl mk k <;> rfl
    · rw [if_neg c, if_neg c]
theorem e_shut2 (N : Nat) {D : Dw} {kd st mk pl : Nat → Int32} {g w e : Nat → Nat} {np : Nat} (hD : DwB D np) (hK : KdB kd np) {M : v_M} (hR : DrR M D kd np) (hO : DoR M np g w e st mk) (hp : ∀ i, i < np → M.1 99 i = pl i) : ∀ (s k f : Nat) (b a : Bool), k + s = np → s < f → f_X12_isShut_L6 N f (v01 b) (v01 a) (nI k) M = some (v01 (a && shb kd (ovr kd D.dv pl mk) s k b), M) := by
  intro s
  have h24 := hD.1
  induction s with
  | zero =>
    intro k f b a hk hf
    obtain ⟨f, rfl⟩ : ∃ q, f = q + 1 := ⟨f - 1, by omega⟩
    rw [f_X12_isShut_L6, hR.1, if_pos (nI_le (by omega) (by omega)), v01_0, v01_0]
    cases b <;> cases a <;> rfl
  | succ s ih =>
    intro k f b a hk hf
    obtain ⟨f, rfl⟩ : ∃ q, f = q + 1 := ⟨f - 1, by omega⟩
    have k33 : ∀ c : Bool, f_X12_isShut_L33 N (f_X12_isShut_L6 N f) (v01 a) (nI k) (v01 c) M = some (v01 ((if kd k = 2 then a && ovr kd D.dv pl mk k else a) && shb kd (ovr kd D.dv pl mk) s (k + 1) c), M) := fun c => by
      unfold f_X12_isShut_L33
      simp only [v_ibN (show k < 24 by omega) (show 24 < 2 ^ 31 by omega), nI_clamp (show k < 2 ^ 31 by omega), v_ckT, (hR.2 k (by omega)).1, e_over2 N hD hK (show k < np by omega) hR hO hp, Option.bind_some, v01_0, f_X12_isShut_L60, f_X12_isShut_L56, f_X12_isShut_L61, nI_1]
      have i1 := ih (k + 1) f c true (by omega) (by omega)
      have i2 := ih (k + 1) f c false (by omega) (by omega)
      rw [show v01 true = 1 from rfl] at i1
      rw [show v01 false = 0 from rfl] at i2
      rw [i1, i2]
      by_cases z : kd k = 2
      · rw [if_pos z, if_pos z]
        cases a <;> cases ovr kd D.dv pl mk k <;> rfl
      · rw [if_neg z, if_neg z]
        cases a <;> rfl
    have k0 := k33 false
    have k1 := k33 true
    rw [show v01 true = 1 from rfl] at k1
    rw [show v01 false = 0 from rfl] at k0
    rw [f_X12_isShut_L6, hR.1, if_neg (nI_ge (show k < np by omega) (by omega))]
    simp only [v_ibN (show k < 24 by omega) (show 24 < 2 ^ 31 by omega), nI_clamp (show k < 2 ^ 31 by omega), v_ckT, (hR.2 k (by omega)).1, v01_0, f_X12_isShut_L28]
    rw [k0, k1, shb]
    by_cases z : kd k = 2
    · simp only [if_pos z]
      cases b <;> cases a <;> cases ovr kd D.dv pl mk k <;> rfl
    · simp only [if_neg z]
      cases b <;> rfl
theorem lkt_c : ∀ j : Nat, j < 6 → lkt (nI j) = (if nI j = 0 then (1 : Int32) else if nI j = 3 then 2 else if nI j = 4 then 4 else if nI j = 5 then 8 else 0) := by decide +kernel
theorem e_lookBit (N : Nat) (x : Int32) (M : v_M) : f_X2_lookBit N x M = some (lkt x, M) := by
  unfold f_X2_lookBit lkt
  by_cases a : x = 0
  · rw [if_pos a, if_pos a]
  · rw [if_neg a, if_neg a]
    by_cases b : x ≤ 2
    · rw [if_pos b, if_pos b]
    · rw [if_neg b, if_neg b]
theorem e_lookedBy (N : Nat) {j : Nat} (hj : j < 6) (M : v_M) : f_X12_lookedBy N (nI j) M = some (lkt (nI j), M) := by
  rw [lkt_c j hj]
  unfold f_X12_lookedBy
  split
  · rfl
  · split
    · rfl
    · split
      · rfl
      · split <;> rfl
theorem e_looks1 (N : Nat) {D : Dw} {kd st mk pl : Nat → Int32} {g w e : Nat → Nat} {np : Nat} (x : Int32) (hD : DwB D np) (hK : KdB kd np) {M : v_M} (hR : DrC M D kd np) (hO : DoC M np g w e st mk) (hp : ∀ i, i < np → M.1 25 i = pl i) : ∀ (s k f : Nat), k + s = np → s < f → f_X2_looksShut_L2 N f x (nI k) M = some (v01 (lkb kd (ovr kd D.dv pl mk) x s k), M) := by
  intro s
  have h24 := hD.1
  induction s with
  | zero =>
    intro k f hk hf
    obtain ⟨f, rfl⟩ : ∃ q, f = q + 1 := ⟨f - 1, by omega⟩
    rw [f_X2_looksShut_L2, hR.1, if_pos (nI_le (by omega) (by omega))]
    rfl
  | succ s ih =>
    intro k f hk hf
    obtain ⟨f, rfl⟩ : ∃ q, f = q + 1 := ⟨f - 1, by omega⟩
    rw [f_X2_looksShut_L2, hR.1, if_neg (nI_ge (show k < np by omega) (by omega))]
    simp only [v_ibN (show k < 24 by omega) (show 24 < 2 ^ 31 by omega), nI_clamp (show k < 2 ^ 31 by omega), v_ckT, (hR.2 k (by omega)).1, e_lookBit, e_over1 N hD hK (show k < np by omega) hR hO hp, Option.bind_some, v01_0, f_X2_looksShut_L35, nI_1, ih (k + 1) f (by omega) (by omega), lkb]
    split
    · rfl
    · cases ovr kd D.dv pl mk k <;> rfl
theorem e_looks2 (N : Nat) {D : Dw} {kd st mk pl : Nat → Int32} {g w e : Nat → Nat} {np : Nat} (x : Int32) (hD : DwB D np) (hK : KdB kd np) {M : v_M} (hR : DrR M D kd np) (hO : DoR M np g w e st mk) (hp : ∀ i, i < np → M.1 99 i = pl i) : ∀ (s k f : Nat) (a : Bool), k + s = np → s < f → f_X12_looksSo_L4 N f x (v01 a) (nI k) M = some (v01 (a && lkb kd (ovr kd D.dv pl mk) x s k), M) := by
  intro s
  have h24 := hD.1
  induction s with
  | zero =>
    intro k f a hk hf
    obtain ⟨f, rfl⟩ : ∃ q, f = q + 1 := ⟨f - 1, by omega⟩
    rw [f_X12_looksSo_L4, hR.1, if_pos (nI_le (by omega) (by omega)), v01_b, lkb, Bool.and_true]
    rfl
  | succ s ih =>
    intro k f a hk hf
    obtain ⟨f, rfl⟩ : ∃ q, f = q + 1 := ⟨f - 1, by omega⟩
    obtain ⟨⟨j, hj, ej⟩, -⟩ := hK k (by omega)
    have i1 := ih (k + 1) f true (by omega) (by omega)
    have i2 := ih (k + 1) f false (by omega) (by omega)
    rw [show v01 true = 1 from rfl] at i1
    rw [show v01 false = 0 from rfl] at i2
    have lb : f_X12_lookedBy N (kd k) M = some (lkt (kd k), M) := by rw [ej]; exact e_lookedBy N hj M
    rw [f_X12_looksSo_L4, hR.1, if_neg (nI_ge (show k < np by omega) (by omega))]
    simp only [v_ibN (show k < 24 by omega) (show 24 < 2 ^ 31 by omega), nI_clamp (show k < 2 ^ 31 by omega), v_ckT, (hR.2 k (by omega)).1, lb, e_over2 N hD hK (show k < np by omega) hR hO hp, Option.bind_some, v01_0, f_X12_looksSo_L42, f_X12_looksSo_L38, f_X12_looksSo_L43, nI_1, i1, i2, lkb]
    rw [Int32.and_comm (lkt (kd k)) x]
    cases a with
    | false => rfl
    | true =>
      rw [if_pos rfl]
      by_cases z : x &&& lkt (kd k) = 0
      · rw [if_pos z, if_pos z]
      · rw [if_neg z, if_neg z]
        cases ovr kd D.dv pl mk k <;> rfl
def unl (kd : Nat → Int32) (dv : Nat → Nat) (pl mk : Nat → Int32) (np : Nat) (x : Int32) : Bool := lkb kd (ovr kd dv pl mk) x np 0 && !shb kd (ovr kd dv pl mk) np 0 false
theorem e_unl1 {N : Nat} (hN : 100 ≤ N) {D : Dw} {kd st mk pl : Nat → Int32} {g w e : Nat → Nat} {np : Nat} (x : Int32) (hD : DwB D np) (hK : KdB kd np) {M : v_M} (hR : DrC M D kd np) (hO : DoC M np g w e st mk) (hp : ∀ i, i < np → M.1 25 i = pl i) : f_X2_isUnlike N x M = some (v01 (unl kd D.dv pl mk np x), M) := by
  have h24 := hD.1
  have l := e_looks1 N x hD hK hR hO hp np 0 N (by omega) (by omega)
  have s := e_shut1 N hD hK hR hO hp np 0 N false (by omega) (by omega)
  rw [show nI 0 = 0 from rfl] at l s
  rw [show v01 false = 0 from rfl] at s
  unfold f_X2_isUnlike f_X2_looksShut f_X2_isShut unl
  rw [l, Option.bind_some]
  simp only [s, Option.bind_some, v01_0]
  cases lkb kd (ovr kd D.dv pl mk) x np 0 <;> cases shb kd (ovr kd D.dv pl mk) np 0 false <;> rfl
theorem e_unl2 {N : Nat} (hN : 100 ≤ N) {D : Dw} {kd st mk pl : Nat → Int32} {g w e : Nat → Nat} {np : Nat} (x : Int32) (hD : DwB D np) (hK : KdB kd np) {M : v_M} (hR : DrR M D kd np) (hO : DoR M np g w e st mk) (hp : ∀ i, i < np → M.1 99 i = pl i) : f_X12_isUnlike N x M = some (v01 (unl kd D.dv pl mk np x), M) := by
  have h24 := hD.1
  have l := e_looks2 N x hD hK hR hO hp np 0 N true (by omega) (by omega)
  have s := e_shut2 N hD hK hR hO hp np 0 N false true (by omega) (by omega)
  rw [show nI 0 = 0 from rfl, Bool.true_and] at l s
  rw [show v01 false = 0 from rfl] at s
  rw [show v01 true = 1 from rfl] at l s
  unfold f_X12_isUnlike f_X12_looksSo f_X12_isShut unl
  rw [l, Option.bind_some]
  simp only [s, Option.bind_some, v01_0]
  cases lkb kd (ovr kd D.dv pl mk) x np 0 <;> cases shb kd (ovr kd D.dv pl mk) np 0 false <;> rfl
