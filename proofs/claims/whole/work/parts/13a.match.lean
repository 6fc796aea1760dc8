/-! choices: counting -/
def cnt (p : Nat → Bool) : Nat → Nat
  | 0 => 0
  | n + 1 => cnt p n + (if p n = true then 1 else 0)
theorem cnt_c {p q : Nat → Bool} : ∀ n : Nat, (∀ i, i < n → p i = q i) → cnt p n = cnt q n := by
  intro n
  induction n with
  | zero => intro _; rfl
  | succ n ih => intro h; rw [cnt, cnt, ih (fun i hi => h i (by omega)), h n (by omega)]
theorem cnt_m {p q : Nat → Bool} : ∀ n : Nat, (∀ i, i < n → p i = true → q i = true) → cnt p n ≤ cnt q n := by
  intro n
  induction n with
  | zero => intro _; exact Nat.le_refl _
  | succ n ih =>
    intro h
    have a := ih (fun i hi => h i (by omega))
    have b := h n (by omega)
    rw [cnt, cnt]
    by_cases z : p n = true
    · rw [if_pos z, if_pos (b z)]; omega
    · rw [if_neg z]; split <;> omega
theorem cnt_l {p q : Nat → Bool} {j : Nat} (hp : ¬ p j = true) (hq : q j = true) : ∀ n : Nat, j < n → (∀ i, i < n → p i = true → q i = true) → cnt p n < cnt q n := by
  intro n
  induction n with
  | zero => intro h; omega
  | succ n ih =>
    intro hj h
    rw [cnt, cnt]
    by_cases z : j = n
    · rw [← z, if_neg hp, if_pos hq]
      have := cnt_m j (fun i hi => h i (by omega))
      omega
    · have a := ih (by omega) (fun i hi => h i (by omega))
      have b := h n (by omega)
      by_cases y : p n = true
      · rw [if_pos y, if_pos (b y)]; omega
      · rw [if_neg y]; split <;> omega
theorem cnt_le (p : Nat → Bool) : ∀ n : Nat, cnt p n ≤ n := by
  intro n
  induction n with
  | zero => exact Nat.le_refl _
  | succ n ih => rw [cnt]; split <;> omega
theorem cnt_0 {p : Nat → Bool} : ∀ n : Nat, (∀ i, i < n → p i = false) → cnt p n = 0 := by
  intro n
  induction n with
  | zero => intro _; rfl
  | succ n ih => intro h; rw [cnt, ih (fun i hi => h i (by omega)), h n (by omega)]; rfl
theorem cnt_a {p q r : Nat → Bool} : ∀ n : Nat, (∀ i, i < n → r i = (p i || q i)) → (∀ i, i < n → ¬ (p i = true ∧ q i = true)) → cnt r n = cnt p n + cnt q n := by
  intro n
  induction n with
  | zero => intro _ _; rfl
  | succ n ih =>
    intro h d
    have a := ih (fun i hi => h i (by omega)) (fun i hi => d i (by omega))
    have e := h n (by omega)
    have f := d n (by omega)
    rw [cnt, cnt, cnt, a, e]
    cases hp : p n <;> cases hq : q n <;> simp_all <;> omega
/-- one place more -/
theorem cnt_u {p q : Nat → Bool} {j n : Nat} (hj : j < n) (hp : p j = false) (hq : q j = true) (h : ∀ i, i < n → i ≠ j → q i = p i) : cnt q n = cnt p n + 1 := by
  have a := cnt_a (p := p) (q := fun i => decide (i = j)) (r := q) n (fun i hi => by
    by_cases z : i = j
    · rw [z, hq, hp]; simp
    · rw [h i hi z]; simp [z]) (fun i hi z => by
    have : i = j := by simpa using z.2
    rw [this, hp] at z
    exact absurd z.1 (by decide))
  have b : cnt (fun i => decide (i = j)) n = 1 := by
    have : ∀ m : Nat, cnt (fun i => decide (i = j)) m = if j < m then 1 else 0 := by
      intro m
      induction m with
      | zero => rfl
      | succ m ih =>
        rw [cnt, ih]
        by_cases z : m = j
        · rw [if_neg (by omega), if_pos (by simp [z]), if_pos (by omega)]
        · rw [if_neg (show ¬ decide (m = j) = true by simp [z])]
          by_cases y : j < m
          · rw [if_pos y, if_pos (by omega)]
          · rw [if_neg y, if_neg (by omega)]
    rw [this, if_pos hj]
  rw [a, b]
def smt (g : Nat → Nat) (T : Nat → Bool) : Nat → Nat
  | 0 => 0
  | k + 1 => smt g T k + (if T k = true then g k else 0)
theorem smt_m {g h : Nat → Nat} {T : Nat → Bool} : ∀ k : Nat, (∀ t, t < k → T t = true → g t ≤ h t) → smt g T k ≤ smt h T k := by
  intro k
  induction k with
  | zero => intro _; exact Nat.le_refl _
  | succ k ih =>
    intro hh
    have a := ih (fun t ht => hh t (by omega))
    have b := hh k (by omega)
    rw [smt, smt]
    by_cases z : T k = true
    · rw [if_pos z, if_pos z]; have := b z; omega
    · rw [if_neg z, if_neg z]; omega
theorem smt_d {q : Nat → Bool} {f : Nat → Nat} {T : Nat → Bool} (m : Nat) : ∀ k : Nat, smt (fun t => cnt (fun w => q w && decide (f w = t)) m) T k = cnt (fun w => q w && (T (f w) && decide (f w < k))) m := by
  intro k
  induction k with
  | zero =>
    rw [smt]
    symm
    exact cnt_0 m (fun i _ => by simp)
  | succ k ih =>
    rw [smt, ih]
    by_cases z : T k = true
    · rw [if_pos z]
      symm
      exact cnt_a m (fun i _ => by
        by_cases a : f i = k
        · rw [a, z]
          cases q i <;> simp
        · have : decide (f i < k + 1) = decide (f i < k) := by
            by_cases b : f i < k
            · rw [decide_eq_true b, decide_eq_true (by omega)]
            · rw [decide_eq_false b, decide_eq_false (by omega)]
          rw [this, decide_eq_false a]
          simp) (fun i _ y => by
        obtain ⟨y1, y2⟩ := y
        simp only [Bool.and_eq_true, decide_eq_true_eq] at y1 y2
        omega)
    · rw [if_neg z, Nat.add_zero]
      exact cnt_c m (fun i _ => by
        by_cases a : f i = k
        · rw [a, Bool.eq_false_iff.mpr z]
          simp
        · have : decide (f i < k + 1) = decide (f i < k) := by
            by_cases b : f i < k
            · rw [decide_eq_true b, decide_eq_true (by omega)]
            · rw [decide_eq_false b, decide_eq_false (by omega)]
          rw [this])
theorem hall {m n : Nat} {R q T : Nat → Bool} {f c : Nat → Nat} (h1 : ∀ w, w < m → q w = true → T (f w) = true → R w = true) (w0 : Nat) (hw : w0 < m) (h2 : R w0 = true) (h2' : ¬ q w0 = true) (h3 : ∀ w, w < m → R w = true → c w < n ∧ T (c w) = true) (h4 : ∀ t, t < n → T t = true → cnt (fun w => R w && decide (c w = t)) m ≤ cnt (fun w => q w && decide (f w = t)) m) : False := by
  have a := smt_m n h4
  rw [smt_d, smt_d] at a
  have b : cnt (fun w => R w && (T (c w) && decide (c w < n))) m = cnt R m := cnt_c m (fun i hi => by
    cases hR : R i with
    | false => rfl
    | true =>
      obtain ⟨x, y⟩ := h3 i hi hR
      rw [y, decide_eq_true x]
      rfl)
  have d : cnt (fun w => q w && (T (f w) && decide (f w < n))) m < cnt R m := cnt_l (j := w0) (fun z => h2' (by
    simp only [Bool.and_eq_true] at z
    exact z.1)) h2 m hw (fun i hi z => by
    simp only [Bool.and_eq_true] at z
    exact h1 i hi z.1 z.2.1)
  omega
/-! choices: states, and what can be -/
def hol (tf : Nat → Nat) (ch : Nat → Option Nat) (t w : Nat) : Bool := match ch w with
  | none => false
  | some s => decide (tf s = t)
theorem hol_n {tf : Nat → Nat} {ch : Nat → Option Nat} {t w : Nat} (h : ch w = none) : hol tf ch t w = false := by unfold hol; rw [h]
theorem hol_s {tf : Nat → Nat} {ch : Nat → Option Nat} {t w s : Nat} (h : ch w = some s) : hol tf ch t w = decide (tf s = t) := by unfold hol; rw [h]
theorem hol_t {tf : Nat → Nat} {ch : Nat → Option Nat} {t w : Nat} (h : hol tf ch t w = true) : ∃ s, ch w = some s ∧ tf s = t := by
  cases e : ch w with
  | none => rw [hol_n e] at h; exact absurd h (by decide)
  | some s => rw [hol_s e] at h; exact ⟨s, rfl, by simpa using h⟩
def Sat (n : Nat) (wk tf : Nat → Nat) (ok : Nat → Bool) (pr : Nat → Nat) (D : Nat → Bool) : Prop := ∃ c : Nat → Nat, (∀ w, w < 200 → D w = true → c w < n ∧ wk (c w) = w ∧ ok (c w) = true) ∧ ∀ t, t < n → pr t + cnt (fun w => D w && decide (tf (c w) = t)) 200 ≤ 2
def Vst (n : Nat) (wk tf : Nat → Nat) (ok : Nat → Bool) (pr : Nat → Nat) (D : Nat → Bool) (ch : Nat → Option Nat) (us : Nat → Nat) : Prop := (∀ w, w < 200 → (D w = true ↔ ch w ≠ none)) ∧ (∀ w s, w < 200 → ch w = some s → s < n ∧ wk s = w ∧ ok s = true) ∧ ∀ t, t < n → us t = pr t + cnt (hol tf ch t) 200 ∧ us t ≤ 2
theorem Vst.sat {n : Nat} {wk tf : Nat → Nat} {ok : Nat → Bool} {pr : Nat → Nat} {D : Nat → Bool} {ch : Nat → Option Nat} {us : Nat → Nat} (h : Vst n wk tf ok pr D ch us) : Sat n wk tf ok pr D := by
  obtain ⟨h1, h2, h3⟩ := h
  refine ⟨fun w => (ch w).getD 0, fun w hw hD => ?_, fun t ht => ?_⟩
  · cases e : ch w with
    | none => exact absurd e ((h1 w hw).mp hD)
    | some s => show (ch w).getD 0 < n ∧ wk ((ch w).getD 0) = w ∧ ok ((ch w).getD 0) = true; rw [e]; exact h2 w s hw e
  · obtain ⟨a, b⟩ := h3 t ht
    have : cnt (fun w => D w && decide (tf ((ch w).getD 0) = t)) 200 = cnt (hol tf ch t) 200 := cnt_c 200 (fun w hw => by
      cases e : ch w with
      | none =>
        have : D w = false := by
          cases hD : D w with
          | false => rfl
          | true => exact absurd e ((h1 w hw).mp hD)
        rw [hol_n e, this]
        rfl
      | some s =>
        have : D w = true := (h1 w hw).mpr (by rw [e]; exact fun z => nomatch z)
        rw [hol_s e, this]
        rfl)
    rw [this]
    omega
theorem Sat.mono {n : Nat} {wk tf : Nat → Nat} {ok : Nat → Bool} {pr : Nat → Nat} {D D' : Nat → Bool} (h : Sat n wk tf ok pr D) (hd : ∀ w, w < 200 → D' w = true → D w = true) : Sat n wk tf ok pr D' := by
  obtain ⟨c, h1, h2⟩ := h
  refine ⟨c, fun w hw hD => h1 w hw (hd w hw hD), fun t ht => ?_⟩
  have := h2 t ht
  have := cnt_m (p := fun w => D' w && decide (tf (c w) = t)) (q := fun w => D w && decide (tf (c w) = t)) 200 (fun i hi z => by
    simp only [Bool.and_eq_true] at z ⊢
    exact ⟨hd i hi z.1, z.2⟩)
  omega
/-- works queued -/
def inQ (Q : Nat → Nat) : Nat → Nat → Bool
  | 0, _ => false
  | z + 1, w => decide (Q z = w) || inQ Q z w
theorem inQ_t {Q : Nat → Nat} {w : Nat} : ∀ z : Nat, inQ Q z w = true ↔ ∃ p, p < z ∧ Q p = w := by
  intro z
  induction z with
  | zero => exact ⟨fun h => absurd h Bool.false_ne_true, fun ⟨p, h, _⟩ => by omega⟩
  | succ z ih =>
    rw [inQ, Bool.or_eq_true, ih, decide_eq_true_iff]
    constructor
    · rintro (h | ⟨p, h1, h2⟩)
      · exact ⟨z, by omega, h⟩
      · exact ⟨p, by omega, h2⟩
    · rintro ⟨p, h1, h2⟩
      by_cases y : p = z
      · left; rw [← y]; exact h2
      · right; exact ⟨p, by omega, h2⟩
theorem inQ_c {Q : Nat → Nat} : ∀ z : Nat, (∀ p, p < z → Q p < 200) → (∀ p p', p < z → p' < z → Q p = Q p' → p = p') → cnt (inQ Q z) 200 = z := by
  intro z
  induction z with
  | zero => intro _ _; exact cnt_0 200 (fun i _ => rfl)
  | succ z ih =>
    intro h1 h2
    have a := ih (fun p hp => h1 p (by omega)) (fun p p' hp hp' => h2 p p' (by omega) (by omega))
    have f : inQ Q z (Q z) = false := by
      cases e : inQ Q z (Q z) with
      | false => rfl
      | true =>
        obtain ⟨p, hp, hq⟩ := (inQ_t z).mp e
        have := h2 p z (by omega) (by omega) hq
        omega
    have b := cnt_u (p := inQ Q z) (q := inQ Q (z + 1)) (h1 z (by omega)) f (by rw [inQ, decide_eq_true rfl]; rfl) (fun i hi hne => by
      rw [inQ, decide_eq_false (fun y => hne y.symm), Bool.false_or])
    rw [b, a]
def BQ (n : Nat) (wk tf : Nat → Nat) (ok : Nat → Bool) (ch : Nat → Option Nat) (w0 : Nat) (Q : Nat → Nat) (z : Nat) (ps : Nat → Nat) (T : Nat → Bool) : Prop := (Q 0 = w0 ∧ ch w0 = none ∧ 0 < z) ∧ (∀ p, p < z → Q p < 200) ∧ (∀ p p', p < z → p' < z → Q p = Q p' → p = p') ∧ ∀ p, 0 < p → p < z → ∃ s, ch (Q p) = some s ∧ T (tf s) = true ∧ tf (ps (Q p)) = tf s ∧ ps (Q p) < n ∧ ok (ps (Q p)) = true ∧ ∃ p', p' < p ∧ Q p' = wk (ps (Q p))
theorem BQ.le {n : Nat} {wk tf : Nat → Nat} {ok : Nat → Bool} {ch : Nat → Option Nat} {w0 : Nat} {Q : Nat → Nat} {z : Nat} {ps : Nat → Nat} {T : Nat → Bool} (h : BQ n wk tf ok ch w0 Q z ps T) : z ≤ 200 := by
  have := inQ_c z h.2.1 h.2.2.1
  have := cnt_le (inQ Q z) 200
  omega
theorem BQ.lt {n : Nat} {wk tf : Nat → Nat} {ok : Nat → Bool} {ch : Nat → Option Nat} {w0 : Nat} {Q : Nat → Nat} {z : Nat} {ps : Nat → Nat} {T : Nat → Bool} (h : BQ n wk tf ok ch w0 Q z ps T) {w : Nat} (hw : w < 200) (hn : ∀ p, p < z → Q p ≠ w) : z < 200 := by
  have a := inQ_c z h.2.1 h.2.2.1
  have b := cnt_l (p := inQ Q z) (q := fun _ => true) (j := w) (fun e => by
    obtain ⟨p, hp, hq⟩ := (inQ_t z).mp e
    exact hn p hp hq) rfl 200 hw (fun i _ _ => rfl)
  have c := cnt_le (fun _ => true) 200
  omega
theorem BQ.T {n : Nat} {wk tf : Nat → Nat} {ok : Nat → Bool} {ch : Nat → Option Nat} {w0 : Nat} {Q : Nat → Nat} {z : Nat} {ps : Nat → Nat} {T T' : Nat → Bool} (h : BQ n wk tf ok ch w0 Q z ps T) (ht : ∀ t, T t = true → T' t = true) : BQ n wk tf ok ch w0 Q z ps T' := ⟨h.1, h.2.1, h.2.2.1, fun p a b => by
  obtain ⟨s, h1, h2, h3⟩ := h.2.2.2 p a b
  exact ⟨s, h1, ht _ h2, h3⟩⟩
def upn (f : Nat → Nat) (k v i : Nat) : Nat := if i = k then v else f i
theorem upn_s (f : Nat → Nat) (k v : Nat) : upn f k v k = v := if_pos rfl
theorem upn_n (f : Nat → Nat) {k v i : Nat} (h : i ≠ k) : upn f k v i = f i := if_neg h
/-- one holder more in the queue -/
theorem BQ.enq {n : Nat} {wk tf : Nat → Nat} {ok : Nat → Bool} {ch : Nat → Option Nat} {w0 : Nat} {Q : Nat → Nat} {z : Nat} {ps : Nat → Nat} {T : Nat → Bool} (h : BQ n wk tf ok ch w0 Q z ps T) {w s s' i : Nat} (hw : w < 200) (hn : ∀ p, p < z → Q p ≠ w) (hc : ch w = some s') (hT : T (tf s') = true) (hs : tf s = tf s') (hsn : s < n) (hok : ok s = true) (hi : i < z) (hq : Q i = wk s) : BQ n wk tf ok ch w0 (upn Q z w) (z + 1) (upn ps w s) T := by
  obtain ⟨⟨a1, a2, a3⟩, b, c, d⟩ := h
  refine ⟨⟨by rw [upn_n _ (by omega)]; exact a1, a2, by omega⟩, fun p hp => ?_, fun p p' hp hp' e => ?_, fun p p0 hp => ?_⟩
  · by_cases y : p = z
    · rw [y, upn_s]; exact hw
    · rw [upn_n _ y]; exact b p (by omega)
  · by_cases y : p = z
    · by_cases y' : p' = z
      · rw [y, y']
      · rw [y, upn_s, upn_n _ y'] at e
        exact absurd e.symm (hn p' (by omega))
    · by_cases y' : p' = z
      · rw [y', upn_s, upn_n _ y] at e
        exact absurd e (hn p (by omega))
      · rw [upn_n _ y, upn_n _ y'] at e
        exact c p p' (by omega) (by omega) e
  · by_cases y : p = z
    · rw [y, upn_s, upn_s]
      exact ⟨s', hc, hT, hs, hsn, hok, i, by omega, by rw [upn_n _ (by omega)]; exact hq⟩
    · have ne := hn p (by omega)
      rw [upn_n _ y, upn_n _ ne]
      obtain ⟨s1, d1, d2, d3, d4, d5, p', d6, d7⟩ := d p p0 (by omega)
      exact ⟨s1, d1, d2, d3, d4, d5, p', d6, by rw [upn_n _ (by omega)]; exact d7⟩
/-- nothing found: then no choice can be -/
theorem BQ.fail {n : Nat} {wk tf : Nat → Nat} {ok : Nat → Bool} {pr : Nat → Nat} {D : Nat → Bool} {ch : Nat → Option Nat} {us : Nat → Nat} {w0 : Nat} {Q : Nat → Nat} {z : Nat} {ps : Nat → Nat} {T : Nat → Bool} (hV : Vst n wk tf ok pr D ch us) (h : BQ n wk tf ok ch w0 Q z ps T) (htf : ∀ s, s < n → tf s < n) (hF : ∀ t, t < n → T t = true → us t = 2) (hH : ∀ t, t < n → T t = true → ∀ w, w < 200 → hol tf ch t w = true → ∃ p, p < z ∧ Q p = w) (hS : ∀ p, p < z → ∀ s, s < n → wk s = Q p → ok s = true → T (tf s) = true) (D' : Nat → Bool) (hD : ∀ w, w < 200 → (D w = true ∨ w = w0) → D' w = true) : ¬ Sat n wk tf ok pr D' := by
  rintro ⟨c, c1, c2⟩
  obtain ⟨v1, v2, v3⟩ := hV
  have w0l : w0 < 200 := by rw [← h.1.1]; exact h.2.1 0 h.1.2.2
  have inD : ∀ w, w < 200 → inQ Q z w = true → D' w = true := fun w hw e => by
    obtain ⟨p, hp, hq⟩ := (inQ_t z).mp e
    refine hD w hw ?_
    by_cases y : p = 0
    · right; rw [← hq, y]; exact h.1.1
    · left
      obtain ⟨s, e1, _⟩ := h.2.2.2 p (by omega) hp
      rw [hq] at e1
      exact (v1 w hw).mpr (by rw [e1]; exact fun z => nomatch z)
  refine hall (m := 200) (n := n) (R := inQ Q z) (q := fun w => (ch w).isSome) (T := fun t => T t && decide (t < n)) (f := fun w => tf ((ch w).getD 0)) (c := fun w => tf (c w)) (fun w hw a b => ?_) w0 w0l ((inQ_t z).mpr ⟨0, h.1.2.2, h.1.1⟩) (by rw [h.1.2.1]; decide) (fun w hw a => ?_) (fun t ht a => ?_)
  · cases e : ch w with
    | none => rw [e] at a; exact absurd a (by decide)
    | some s =>
      rw [e] at b
      simp only [Bool.and_eq_true, decide_eq_true_eq, Option.getD_some] at b
      exact (inQ_t z).mpr (hH (tf s) b.2 b.1 w hw (by rw [hol_s e]; simp))
  · obtain ⟨p, hp, hq⟩ := (inQ_t z).mp a
    obtain ⟨k1, k2, k3⟩ := c1 w hw (inD w hw a)
    have l := htf (c w) k1
    refine ⟨l, ?_⟩
    have := hS p hp (c w) k1 (by rw [k2, hq]) k3
    show (T (tf (c w)) && decide (tf (c w) < n)) = true
    rw [this, decide_eq_true l]
    rfl
  · simp only [Bool.and_eq_true, decide_eq_true_eq] at a
    obtain ⟨u1, u2⟩ := v3 t ht
    have u3 := hF t ht a.1
    have u4 := c2 t ht
    have l1 := cnt_m (p := fun w => inQ Q z w && decide (tf (c w) = t)) (q := fun w => D' w && decide (tf (c w) = t)) 200 (fun i hi y => by
      simp only [Bool.and_eq_true] at y ⊢
      exact ⟨inD i hi y.1, y.2⟩)
    have l2 : cnt (hol tf ch t) 200 = cnt (fun w => (ch w).isSome && decide (tf ((ch w).getD 0) = t)) 200 := cnt_c 200 (fun w _ => by
      cases e : ch w with
      | none => rw [hol_n e]; rfl
      | some s => rw [hol_s e]; rfl)
    omega
