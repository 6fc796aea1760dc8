/-! the door, in numbers: places, what is asked, how far the handle goes -/
abbrev Dw : Type := (Nat → Nat) × (Nat → Nat) × (Nat → Nat) × (Nat → Nat)
def Dw.dv (D : Dw) : Nat → Nat := D.1
def Dw.tm (D : Dw) : Nat → Nat := D.2.1
def Dw.bb (D : Dw) : Nat → Nat := D.2.2.1
def Dw.lm (D : Dw) : Nat → Nat := D.2.2.2
abbrev Dx : Type := (Nat → Nat) × (Nat → Nat) × (Nat → Bool)
def Dx.gw (X : Dx) : Nat → Nat := X.1
def Dx.e (X : Dx) : Nat → Nat := X.2.1
def Dx.wk (X : Dx) : Nat → Bool := X.2.2
def pls (D : Dw) (X : Dx) (h : Nat) : Nat → Nat → Nat
  | 0, _ => 0
  | k + 1, i => if i = k then min (if k = 0 then h else (pls D X h k (D.dv k) - X.gw k) * D.tm k / D.bb k) (D.lm k) - X.e k else pls D X h k i
def akd (D : Dw) (X : Dx) (h k : Nat) : Nat := if k = 0 then h else (pls D X h k (D.dv k) - X.gw k) * D.tm k / D.bb k
def plv (D : Dw) (X : Dx) (h k : Nat) : Nat := min (akd D X h k) (D.lm k) - X.e k
theorem pls_eq (D : Dw) (X : Dx) (h : Nat) : ∀ k i : Nat, i < k → pls D X h k i = plv D X h i := by
  intro k
  induction k with
  | zero => intro i hi; omega
  | succ k ih =>
    intro i hi
    unfold pls
    by_cases q : i = k
    · rw [if_pos q, q]; rfl
    · rw [if_neg q]; exact ih i (by omega)
def DwB (D : Dw) (np : Nat) : Prop := np ≤ 24 ∧ ∀ i, i < np → (0 < i → D.dv i < i) ∧ (1 ≤ D.tm i ∧ D.tm i ≤ 9) ∧ (1 ≤ D.bb i ∧ D.bb i ≤ 9) ∧ D.lm i ≤ 999
theorem akd_s {D : Dw} {X : Dx} {h k np : Nat} (hD : DwB D np) (hk : k < np) (h0 : 0 < k) : akd D X h k = (plv D X h (D.dv k) - X.gw k) * D.tm k / D.bb k := by
  unfold akd
  rw [if_neg (by omega), pls_eq D X h k (D.dv k) ((hD.2 k hk).1 h0)]
theorem plv_le {D : Dw} {X : Dx} {h k np : Nat} (hD : DwB D np) (hk : k < np) : plv D X h k ≤ 999 := by
  have := (hD.2 k hk).2.2.2
  unfold plv
  omega
theorem akd_le {D : Dw} {X : Dx} {h k np : Nat} (hD : DwB D np) (hk : k < np) (hh : h ≤ 999) : akd D X h k ≤ 8991 := by
  by_cases h0 : k = 0
  · unfold akd; rw [if_pos h0]; omega
  · rw [akd_s hD hk (by omega)]
    obtain ⟨q1, q2, q3, q4⟩ := hD.2 k hk
    have := plv_le (X := X) (h := h) hD (show D.dv k < np by have := q1 (by omega); omega)
    refine Nat.le_trans (Nat.div_le_self _ _) ?_
    exact Nat.le_trans (Nat.mul_le_mul (show plv D X h (D.dv k) - X.gw k ≤ 999 by omega) q2.2) (by omega)
def okk (D : Dw) (X : Dx) (h k : Nat) : Prop := akd D X h k ≤ D.lm k ∨ X.wk k = true
def mst (D : Dw) (X : Dx) (al : Nat → Nat) (p : Nat) : Nat := if al p + X.e p < D.lm p then min (if X.wk p then 1000000 else D.lm p) (al p + X.e p) else (if X.wk p then 1000000 else D.lm p)
def fsp (D : Dw) (X : Dx) (p : Nat) (al : Nat → Nat) : Nat → Nat := if mst D X al p < 1000000 then (fun i => if i = D.dv p then min (al (D.dv p)) (X.gw p + ((mst D X al p + 1) * D.bb p - 1) / D.tm p) else al i) else al
def fal (D : Dw) (X : Dx) : Nat → (Nat → Nat) → Nat → Nat
  | 0, al => al
  | p + 1, al => fal D X p (fsp D X (p + 1) al)
def far (D : Dw) (X : Dx) (np : Nat) : Nat := min (D.lm 0) (fal D X (np - 1) (fun _ => 1000000) 0)
theorem mul_div_le {a t b m : Nat} (ht : 0 < t) (hb : 0 < b) : a * t / b ≤ m ↔ a ≤ ((m + 1) * b - 1) / t := by
  rw [Nat.le_div_iff_mul_le ht, ← Nat.lt_succ_iff, Nat.div_lt_iff_lt_mul hb, Nat.succ_eq_add_one]
  have : 0 < (m + 1) * b := Nat.mul_pos (by omega) hb
  omega
theorem fsp_ok {D : Dw} {X : Dx} {np p h : Nat} {al : Nat → Nat} (hD : DwB D np) (hp : p < np) (h0 : 0 < p) : (okk D X h p ∧ ∀ j, j ≤ p → plv D X h j ≤ al j) ↔ ∀ j, j < p → plv D X h j ≤ fsp D X p al j := by
  obtain ⟨q1, q2, q3, q4⟩ := hD.2 p hp
  have dv := q1 h0
  have ea := akd_s (X := X) (h := h) hD hp h0
  have cond : (okk D X h p ∧ plv D X h p ≤ al p) ↔ (mst D X al p < 1000000 → akd D X h p ≤ mst D X al p) := by
    unfold okk mst
    have ep : plv D X h p = min (akd D X h p) (D.lm p) - X.e p := rfl
    rw [ep]
    generalize akd D X h p = a
    by_cases w : X.wk p = true
    · simp only [w, if_true, or_true, true_and]
      by_cases c : al p + X.e p < D.lm p
      · rw [if_pos c]; omega
      · rw [if_neg c]; omega
    · simp only [w, if_false, or_false, Bool.false_eq_true]
      by_cases c : al p + X.e p < D.lm p
      · rw [if_pos c]; omega
      · rw [if_neg c]; omega
  have step : (mst D X al p < 1000000 → akd D X h p ≤ mst D X al p) ↔ (mst D X al p < 1000000 → plv D X h (D.dv p) ≤ X.gw p + ((mst D X al p + 1) * D.bb p - 1) / D.tm p) := by
    rw [ea, mul_div_le (by omega) (by omega)]
    generalize ((mst D X al p + 1) * D.bb p - 1) / D.tm p = y
    omega
  constructor
  · rintro ⟨o, hj⟩ j hjp
    have s := step.mp (cond.mp ⟨o, hj p (Nat.le_refl _)⟩)
    unfold fsp
    by_cases c : mst D X al p < 1000000
    · rw [if_pos c]
      by_cases d : j = D.dv p
      · simp only [if_pos d]
        have := s c
        have := hj (D.dv p) (by omega)
        rw [d]
        omega
      · simp only [if_neg d]; exact hj j (by omega)
    · rw [if_neg c]; exact hj j (by omega)
  · intro hj
    have base : ∀ j, j < p → plv D X h j ≤ al j := fun j hjp => by
      have := hj j hjp
      unfold fsp at this
      by_cases c : mst D X al p < 1000000
      · rw [if_pos c] at this
        by_cases d : j = D.dv p
        · simp only [if_pos d] at this; rw [d] at this ⊢; omega
        · simp only [if_neg d] at this; exact this
      · rw [if_neg c] at this; exact this
    have s : mst D X al p < 1000000 → plv D X h (D.dv p) ≤ X.gw p + ((mst D X al p + 1) * D.bb p - 1) / D.tm p := fun c => by
      have := hj (D.dv p) dv
      unfold fsp at this
      rw [if_pos c, if_pos rfl] at this
      omega
    obtain ⟨o, hp'⟩ := cond.mpr (step.mpr s)
    refine ⟨o, fun j hjp => ?_⟩
    by_cases d : j = p
    · rw [d]; exact hp'
    · exact base j (by omega)
theorem fal_ok {D : Dw} {X : Dx} {np h : Nat} (hD : DwB D np) : ∀ (p : Nat) (al : Nat → Nat), p < np → (((∀ j, j ≤ p → plv D X h j ≤ al j) ∧ ∀ k, 0 < k → k ≤ p → okk D X h k) ↔ plv D X h 0 ≤ fal D X p al 0) := by
  intro p
  induction p with
  | zero =>
    intro al hp
    constructor
    · intro q; exact q.1 0 (Nat.le_refl _)
    · intro q
      refine ⟨fun j hj => ?_, fun k a b => absurd a (by omega)⟩
      have : j = 0 := by omega
      subst this
      exact q
  | succ p ih =>
    intro al hp
    rw [show fal D X (p + 1) al = fal D X p (fsp D X (p + 1) al) from rfl, ← ih (fsp D X (p + 1) al) (by omega)]
    have st := fsp_ok (h := h) (X := X) (al := al) hD hp (by omega)
    constructor
    · rintro ⟨a, b⟩
      refine ⟨fun j hj => st.mp ⟨b (p + 1) (by omega) (by omega), a⟩ j (by omega), fun k k0 kp => b k k0 (by omega)⟩
    · rintro ⟨a, b⟩
      obtain ⟨c, d⟩ := st.mpr (fun j hj => a j (by omega))
      refine ⟨d, fun k k0 kp => ?_⟩
      by_cases q : k = p + 1
      · rw [q]; exact c
      · exact b k k0 (by omega)
/-- the greatest place of the handle that is let -/
theorem far_ok {D : Dw} {X : Dx} {np h : Nat} (hD : DwB D np) (hn : 0 < np) (e0 : X.e 0 = 0) (w0 : X.wk 0 = false) : (∀ k, k < np → okk D X h k) ↔ h ≤ far D X np := by
  have f := fal_ok (X := X) (h := h) hD (np - 1) (fun _ => 1000000) (by omega)
  have e : plv D X h 0 = min h (D.lm 0) := by unfold plv akd; rw [if_pos rfl, e0]; rfl
  rw [e] at f
  unfold far
  have o0 : okk D X h 0 ↔ h ≤ D.lm 0 := by unfold okk akd; rw [if_pos rfl, w0]; simp
  constructor
  · intro q
    have a := o0.mp (q 0 hn)
    have := f.mp ⟨fun j hj => by have := plv_le (X := X) (h := h) hD (show j < np by omega); omega, fun k k0 kp => q k (by omega)⟩
    omega
  · intro q
    have b := f.mpr (by omega)
    intro k hk
    by_cases k0 : k = 0
    · rw [k0]; exact o0.mpr (by omega)
    · exact b.2 k (by omega) (by omega)
