/-! choices moved -/
def upo (f : Nat → Option Nat) (k v i : Nat) : Option Nat := if i = k then some v else f i
theorem upo_s (f : Nat → Option Nat) (k v : Nat) : upo f k v k = some v := if_pos rfl
theorem upo_n (f : Nat → Option Nat) {k v i : Nat} (h : i ≠ k) : upo f k v i = f i := if_neg h
def AgR (n : Nat) (wk tf : Nat → Nat) (ok : Nat → Bool) (w0 : Nat) (ch : Nat → Option Nat) (v : Nat) (c : Nat → Option Nat) : Prop := (∀ w, w < 200 → (c w ≠ none ↔ (ch w ≠ none ∨ w = w0))) ∧ ((∀ w s, w < 200 → ch w = some s → s < n ∧ wk s = w ∧ ok s = true) → ∀ w s, w < 200 → c w = some s → s < n ∧ wk s = w ∧ ok s = true) ∧ ∀ t, cnt (hol tf c t) 200 = cnt (hol tf ch t) 200 + (if tf v = t then 1 else 0)
theorem ag0 {n : Nat} {wk tf : Nat → Nat} {ok : Nat → Bool} {w0 : Nat} {ch : Nat → Option Nat} {v : Nat} (h0 : ch w0 = none) (hw : w0 < 200) (h1 : wk v = w0) (h2 : v < n) (h3 : ok v = true) : AgR n wk tf ok w0 ch v (upo ch w0 v) := by
  refine ⟨fun w hw => ?_, fun hv w s hw e => ?_, fun t => ?_⟩
  · by_cases y : w = w0
    · rw [y, upo_s]
      exact ⟨fun _ => Or.inr rfl, fun _ z => nomatch z⟩
    · rw [upo_n _ y]
      exact ⟨fun z => Or.inl z, fun z => z.elim id (fun q => absurd q y)⟩
  · by_cases y : w = w0
    · rw [y, upo_s] at e
      rw [← Option.some.inj e, y]
      exact ⟨h2, h1, h3⟩
    · rw [upo_n _ y] at e
      exact hv w s hw e
  · by_cases y : tf v = t
    · rw [if_pos y]
      exact cnt_u hw (hol_n h0) (by rw [hol_s (upo_s ch w0 v), decide_eq_true y]) (fun i _ hne => by unfold hol; rw [upo_n _ hne])
    · rw [if_neg y, Nat.add_zero]
      exact cnt_c 200 (fun i _ => by
        by_cases q : i = w0
        · rw [q, hol_n h0, hol_s (upo_s ch w0 v), decide_eq_false y]
        · unfold hol; rw [upo_n _ q])
theorem ag1 {n : Nat} {wk tf : Nat → Nat} {ok : Nat → Bool} {w0 k : Nat} {ch c : Nat → Option Nat} {v v' s' : Nat} (hk : k < 200) (hs : ch k = some s') (h1 : wk v = k) (h2 : v < n) (h3 : ok v = true) (ht : tf v' = tf s') (h : AgR n wk tf ok w0 (upo ch k v) v' c) : AgR n wk tf ok w0 ch v c := by
  obtain ⟨a, b, d⟩ := h
  refine ⟨fun w hw => ?_, fun hv => b (fun w s hw e => ?_), fun t => ?_⟩
  · rw [a w hw]
    by_cases y : w = k
    · rw [y, upo_s, hs]
      exact ⟨fun _ => Or.inl (fun z => nomatch z), fun _ => Or.inl (fun z => nomatch z)⟩
    · rw [upo_n _ y]
  · by_cases y : w = k
    · rw [y, upo_s] at e
      rw [← Option.some.inj e, y]
      exact ⟨h2, h1, h3⟩
    · rw [upo_n _ y] at e
      exact hv w s hw e
  · rw [d t, ht]
    by_cases y : tf s' = t
    · by_cases q : tf v = t
      · rw [if_pos y, if_pos q]
        have := cnt_c (p := hol tf (upo ch k v) t) (q := hol tf ch t) 200 (fun i _ => by
          by_cases x : i = k
          · rw [x, hol_s (upo_s ch k v), hol_s hs, decide_eq_true y, decide_eq_true q]
          · unfold hol; rw [upo_n _ x])
        rw [this]
      · rw [if_pos y, if_neg q]
        have := cnt_u (p := hol tf (upo ch k v) t) (q := hol tf ch t) hk (by rw [hol_s (upo_s ch k v), decide_eq_false q]) (by rw [hol_s hs, decide_eq_true y]) (fun i _ hne => by unfold hol; rw [upo_n _ hne])
        omega
    · by_cases q : tf v = t
      · rw [if_neg y, if_pos q]
        have := cnt_u (p := hol tf ch t) (q := hol tf (upo ch k v) t) hk (by rw [hol_s hs, decide_eq_false y]) (by rw [hol_s (upo_s ch k v), decide_eq_true q]) (fun i _ hne => by unfold hol; rw [upo_n _ hne])
        omega
      · rw [if_neg y, if_neg q]
        have := cnt_c (p := hol tf (upo ch k v) t) (q := hol tf ch t) 200 (fun i _ => by
          by_cases x : i = k
          · rw [x, hol_s (upo_s ch k v), hol_s hs, decide_eq_false y, decide_eq_false q]
          · unfold hol; rw [upo_n _ x])
        rw [this]
theorem Vst.ag {n : Nat} {wk tf : Nat → Nat} {ok : Nat → Bool} {pr : Nat → Nat} {D D' : Nat → Bool} {ch c : Nat → Option Nat} {us : Nat → Nat} {w0 v : Nat} (hV : Vst n wk tf ok pr D ch us) (h : AgR n wk tf ok w0 ch v c) (hu : us (tf v) < 2) (hD : ∀ w, w < 200 → (D' w = true ↔ (D w = true ∨ w = w0))) : Vst n wk tf ok pr D' c (upn us (tf v) (us (tf v) + 1)) := by
  obtain ⟨v1, v2, v3⟩ := hV
  obtain ⟨a, b, d⟩ := h
  refine ⟨fun w hw => by rw [hD w hw, a w hw, v1 w hw], b v2, fun t ht => ?_⟩
  obtain ⟨u1, u2⟩ := v3 t ht
  rw [d t]
  by_cases y : t = tf v
  · rw [y, upn_s, if_pos rfl]
    rw [y] at u1 u2
    omega
  · rw [upn_n _ y, if_neg (fun q => y q.symm)]
    omega
