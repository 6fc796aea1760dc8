/-! the reference's search -/
def SR (M : v_M) (n : Nat) (wk tf : Nat → Nat) (dy LN : Nat → Int32) (fd : Nat → Nat) : Prop := (n ≤ 200 ∧ M.1 79 60 = nI n) ∧ (∀ s, s < n → (10 * M.1 122 s + M.1 123 s = nI (wk s) ∧ wk s < 200) ∧ (M.1 126 s = nI (tf s) ∧ tf s < n) ∧ M.1 125 s = dy s ∧ M.1 132 s = v01 (!decide (dy s ≤ LN (wk s))) ∧ ¬ dy s ≤ -1) ∧ ∀ w, w < 200 → M.1 134 w = enc (fd w) ∧ fd w ≤ 10000
theorem SR.keep {W : List Nat} {O : List (Nat × Nat)} {M M' : v_M} {n : Nat} {wk tf : Nat → Nat} {dy LN : Nat → Int32} {fd : Nat → Nat} (hf : v_fr W O M M') (hk : ([122, 123, 125, 126, 132, 134].all (fun k => !(W.contains k || O.any (fun q => q.1 == k)))) = true) (h1 : (W.contains 79 || O.contains (79, 60)) = false) (h : SR M n wk tf dy LN fd) : SR M' n wk tf dy LN fd := by
  have e : ∀ k ∈ [122, 123, 125, 126, 132, 134], M'.1 k = M.1 k := fun k hm => v_keepR hf k (by have := List.all_eq_true.mp hk k hm; simpa using this)
  unfold SR at h ⊢
  rw [v_keepC hf 79 60 h1, e 122 (by decide), e 123 (by decide), e 125 (by decide), e 126 (by decide), e 132 (by decide), e 134 (by decide)]
  exact h
theorem e_need (N : Nat) {M : v_M} {n : Nat} {wk tf : Nat → Nat} {dy LN : Nat → Int32} {fd : Nat → Nat} (h : SR M n wk tf dy LN fd) {s : Nat} (hs : s < n) : f_X12_needOf N (nI s) M = some (nI (wk s), M) := by
  have h2 := h.1.1
  unfold f_X12_needOf
  simp only [v_ibN (show s < 200 by omega) (show 200 < 2 ^ 31 by omega), nI_clamp (show s < 2 ^ 31 by omega), v_ckT, (h.2.1 s hs).1.1]
theorem e_fits (N : Nat) {M : v_M} {n : Nat} {wk tf : Nat → Nat} {dy LN : Nat → Int32} {fd : Nat → Nat} (h : SR M n wk tf dy LN fd) {s w : Nat} (x3 : Int32) (hs : s < n) (hw : w < 200) : f_X12_fits N (nI s) (nI w) x3 M = some (v01 (okB wk dy LN fd x3 s && decide (wk s = w)), M) := by
  have h2 := h.1.1
  obtain ⟨⟨a1, a2⟩, -, a3, a4, a5⟩ := h.2.1 s hs
  unfold f_X12_fits okB svB
  simp only [v_ibN (show s < 200 by omega) (show 200 < 2 ^ 31 by omega), nI_clamp (show s < 2 ^ 31 by omega), v_ckT, e_need N h hs, Option.bind_some, a3, a4, v01_0, v_ibN hw (show 200 < 2 ^ 31 by omega), nI_clamp (show w < 2 ^ 31 by omega)]
  by_cases c1 : nI s = x3
  · rw [if_pos c1, decide_eq_true c1, Bool.not_true, Bool.and_false, Bool.false_and]; rfl
  rw [if_neg c1, decide_eq_false c1, Bool.not_false, Bool.and_true]
  cases hz : (!decide (dy s ≤ LN (wk s))) with
  | false => rfl
  | true =>
    rw [if_pos rfl, Bool.true_and]
    by_cases c2 : wk s = w
    · rw [if_pos (by rw [c2]), decide_eq_true c2, Bool.and_true, c2]
      obtain ⟨b1, b2⟩ := h.2.2 w hw
      rw [b1]
      by_cases c3 : fd w = 10000
      · rw [show enc (fd w) = -1 from (enc_m1 b2).mpr c3, if_pos (by rw [i_lt]; rw [i_le] at a5; omega), decide_eq_true c3]; rfl
      · rw [enc_n c3, decide_eq_false c3]
        by_cases c4 : nI (fd w) < dy s
        · rw [if_pos c4, decide_eq_true c4]; rfl
        · rw [if_neg c4, decide_eq_false c4]; rfl
    · rw [if_neg (fun q => c2 ((nI_eqX (by omega) (by omega)).mp q)), decide_eq_false c2, Bool.and_false]; rfl
def q136 (M : v_M) (ch : Nat → Option Nat) : Prop := ∀ w, w < 200 → M.1 136 w = ov6 (ch w)
def q127 (M : v_M) (n : Nat) (us : Nat → Nat) : Prop := ∀ t, t < n → M.1 127 t = nI (us t)
theorem e_gives {N n : Nat} {wk tf : Nat → Nat} {ok : Nat → Bool} {ch : Nat → Option Nat} {w0 : Nat} {Q : Nat → Nat} {z : Nat} {ps : Nat → Nat} {T : Nat → Bool} (hq : BQ n wk tf ok ch w0 Q z ps T) (h200 : n ≤ 200) : ∀ (b p f : Nat) (M : v_M) (ch1 : Nat → Option Nat) (v : Nat), p < b → p < z → Q p = wk v → v < n → ok v = true → (∀ p, 0 < p → p < z → M.1 138 (Q p) = nI (ps (Q p)) ∧ M.1 137 (Q p) = nI (wk (ps (Q p)))) → M.1 137 w0 = -1 → (∀ p', p' ≤ p → ch1 (Q p') = ch (Q p')) → q136 M ch1 → p + 1 < f → ∃ (M' : v_M) (c : Nat → Option Nat), f_X12_gives_L5 N f (nI (Q p)) (nI v) M = some (0, M') ∧ v_fr [136] [] M M' ∧ q136 M' c ∧ AgR n wk tf ok w0 ch1 v c := by
  intro b
  induction b with
  | zero => intro p f M ch1 v h; omega
  | succ b ih =>
    intro p f M ch1 v hb hz hQ hv hok hw hr hag h136 hf
    obtain ⟨f, rfl⟩ : ∃ q, f = q + 1 := ⟨f - 1, by omega⟩
    have Ql := hq.2.1 p hz
    have fr : v_fr [136] [] M (v_wr M 136 (Q p) (nI v)) := v_frw (by decide) v_frR
    have r136' : q136 (v_wr M 136 (Q p) (nI v)) (upo ch1 (Q p) v) := fun w hw => by
      rw [v_rd]
      by_cases y : w = Q p
      · rw [if_pos ⟨rfl, y⟩, y, upo_s]; rfl
      · rw [if_neg (fun q => y q.2), upo_n _ y]; exact h136 w hw
    rw [f_X12_gives_L5, if_neg (nI_nm1 (by omega))]
    simp only [v_ibN Ql (show 200 < 2 ^ 31 by omega), nI_clamp (show Q p < 2 ^ 31 by omega), v_ckT, v_letE, v_rdn, ne_eq, Nat.reduceEqDiff, not_false_eq_true]
    have ek := hag p (Nat.le_refl _)
    by_cases p0 : p = 0
    · subst p0
      have kw : Q 0 = w0 := hq.1.1
      obtain ⟨f, rfl⟩ : ∃ q, f = q + 1 := ⟨f - 1, by omega⟩
      refine ⟨_, upo ch1 (Q 0) v, ?_, fr, r136', ?_⟩
      · rw [f_X12_gives_L5, show M.1 137 (Q 0) = -1 by rw [kw]; exact hr]
        first | rw [if_pos rfl] | rw [if_pos trivial]
      · have := ag0 (n := n) (wk := wk) (tf := tf) (ok := ok) (w0 := Q 0) (ch := ch1) (v := v) (by rw [ek, kw]; exact hq.1.2.1) Ql hQ.symm hv hok
        rw [kw] at this ⊢
        exact this
    · obtain ⟨s', e1, e2, e3, e4, e5, p', e6, e7⟩ := hq.2.2.2 p (by omega) hz
      obtain ⟨w1, w2⟩ := hw p (by omega) hz
      rw [w1, w2, ← e7]
      have hQp : ∀ p'', p'' ≤ p' → Q p'' ≠ Q p := fun p'' hp y => by
        have := hq.2.2.1 p'' p (by omega) hz y
        omega
      obtain ⟨M', c, m1, m2, m3, m4⟩ := ih p' f (v_wr M 136 (Q p) (nI v)) (upo ch1 (Q p) v) (ps (Q p)) (by omega) (by omega) e7 e4 e5 (fun p1 a1 a2 => by rw [v_rdn (by decide), v_rdn (by decide)]; exact hw p1 a1 a2) (by rw [v_rdn (by decide)]; exact hr) (fun p'' hp => by rw [upo_n _ (hQp p'' hp)]; exact hag p'' (by omega)) r136' (by omega)
      exact ⟨M', c, m1, v_frT fr m2, m3, ag1 Ql (by rw [ek, e1]) hQ.symm hv hok e3 m4⟩
theorem e_isIn1 (N : Nat) {Q : Nat → Nat} {z k : Nat} {M : v_M} (hz : z ≤ 200) (hk : k < 200) (hQ : ∀ p, p < z → M.1 139 p = nI (Q p) ∧ Q p < 200) : ∀ (s p f : Nat) (a : Bool), p + s = z → s < f → ∃ b : Bool, f_X12_isIn_L5 N f (nI k) (nI z) (v01 a) (nI p) M = some (v01 b, M) ∧ (b = true ↔ (a = true ∨ ∃ q, p ≤ q ∧ q < z ∧ Q q = k)) := by
  intro s
  induction s with
  | zero =>
    intro p f a hp hf
    obtain ⟨f, rfl⟩ : ∃ q, f = q + 1 := ⟨f - 1, by omega⟩
    refine ⟨a, ?_, fun h => Or.inl h, fun h => h.elim id (fun ⟨q, a, b, _⟩ => by omega)⟩
    rw [f_X12_isIn_L5, if_pos (nI_le (by omega) (by omega)), v01_b, v_ckT]
  | succ s ih =>
    intro p f a hp hf
    obtain ⟨f, rfl⟩ : ∃ q, f = q + 1 := ⟨f - 1, by omega⟩
    obtain ⟨e1, e2⟩ := hQ p (by omega)
    have i1 := ih (p + 1) f true (by omega) (by omega)
    have i0 := ih (p + 1) f false (by omega) (by omega)
    rw [show v01 true = 1 from rfl] at i1
    rw [show v01 false = 0 from rfl] at i0
    rw [f_X12_isIn_L5, if_neg (nI_ge (show p < z by omega) (by omega))]
    simp only [v_ibN (show p < 200 by omega) (show 200 < 2 ^ 31 by omega), nI_clamp (show p < 2 ^ 31 by omega), v_ckT, e1, v01_0, f_X12_isIn_L26, f_X12_isIn_L31, nI_1]
    cases a with
    | true =>
      rw [if_pos rfl]
      obtain ⟨b, g1, g2⟩ := i1
      exact ⟨b, g1, by rw [g2]; exact ⟨fun _ => Or.inl rfl, fun _ => Or.inl rfl⟩⟩
    | false =>
      rw [if_neg (by decide)]
      by_cases y : Q p = k
      · rw [if_pos (by rw [y])]
        obtain ⟨b, g1, g2⟩ := i1
        exact ⟨b, g1, by rw [g2]; exact ⟨fun _ => Or.inr ⟨p, Nat.le_refl _, by omega, y⟩, fun _ => Or.inl rfl⟩⟩
      · rw [if_neg (fun q => y ((nI_eqX (by omega) (by omega)).mp q))]
        obtain ⟨b, g1, g2⟩ := i0
        refine ⟨b, g1, ?_⟩
        rw [g2]
        constructor
        · rintro (h | ⟨q, a1, a2, a3⟩)
          · exact Or.inl h
          · exact Or.inr ⟨q, by omega, a2, a3⟩
        · rintro (h | ⟨q, a1, a2, a3⟩)
          · exact Or.inl h
          · refine Or.inr ⟨q, ?_, a2, a3⟩
            by_cases x : q = p
            · rw [x] at a3; exact absurd a3 y
            · omega
theorem e_isIn {N : Nat} (hN : 300 ≤ N) {Q : Nat → Nat} {z k : Nat} {M : v_M} (hz : z ≤ 200) (hk : k < 200) (hQ : ∀ p, p < z → M.1 139 p = nI (Q p) ∧ Q p < 200) : ∃ b : Bool, f_X12_isIn N (nI k) (nI z) M = some (v01 b, M) ∧ (b = true ↔ ∃ q, q < z ∧ Q q = k) := by
  obtain ⟨b, g1, g2⟩ := e_isIn1 N hz hk hQ z 0 N false (by omega) (by omega)
  refine ⟨b, g1, ?_⟩
  rw [g2]
  constructor
  · rintro (h | ⟨q, _, a2, a3⟩)
    · exact absurd h (by decide)
    · exact ⟨q, a2, a3⟩
  · rintro ⟨q, a2, a3⟩
    exact Or.inr ⟨q, by omega, a2, a3⟩
