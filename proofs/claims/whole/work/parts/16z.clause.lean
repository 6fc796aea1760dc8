/-! a clause: what is kept of it -/
theorem num_of {S : List Op} {a : Nat} (h : SumE S a) (ha : a ≤ 60) : NumW S := by
  intro F hF
  obtain ⟨x, hx, r⟩ := h.2 F hF [] (by rw [List.length_nil]; omega)
  exact ⟨x, by omega, r⟩
theorem tru_of {S : List Op} {a : Nat} (h : TruE S a) (ha : a ≤ 60) : TruW S := by
  intro F hF
  obtain ⟨x, hx, r⟩ := h.2 F hF [] (by rw [List.length_nil]; omega)
  exact ⟨x, hx, r⟩
theorem seg_app {L X : List Op} {f t : Nat} (h1 : f ≤ t) (h2 : t ≤ L.length) : seg (L ++ X) f t = seg L f t := by
  unfold seg
  rw [List.drop_append_of_le_length (by omega), List.take_append_of_le_length (by rw [List.length_drop]; omega)]
theorem seg_end (L S : List Op) : seg (L ++ S) L.length (L ++ S).length = S := by
  unfold seg
  rw [List.drop_left, List.length_append, Nat.add_sub_cancel_left, List.take_length]
def CL (A B : v_M) (q y n : Nat) (L : List Op) : Prop := ∃ f t : Nat, (f ≤ t ∧ t ≤ L.length) ∧ (A.1 (q + 4) n = nI f ∧ A.1 (q + 5) n = nI t ∧ B.1 117 y = nI f ∧ B.1 118 y = nI t) ∧ (f < t → TruW (seg L f t)) ∧ ∃ h : Nat, h ≤ 3 ∧ A.1 (q + 1) n = nI h ∧ B.1 113 y = nI h ∧ (h = 0 → ∃ k d : Nat, k < 10 ∧ d ≤ 999 ∧ A.1 (q + 2) n = nI k ∧ B.1 114 y = nI k ∧ A.1 (q + 3) n = nI d ∧ B.1 115 y = nI d) ∧ (h = 1 → ∃ s : Nat, s ≤ f ∧ A.1 (q + 2) n = nI s ∧ B.1 116 y = nI s ∧ NumW (seg L s f)) ∧ (h = 2 → B.1 114 y = A.1 (q + 2) n)
theorem CL.app {A B : v_M} {q y n : Nat} {L : List Op} (h : CL A B q y n L) (X : List Op) : CL A B q y n (L ++ X) := by
  obtain ⟨f, t, ⟨h1, h2⟩, h3, h4, k, hk, e1, e2, g0, g1, g2⟩ := h
  refine ⟨f, t, ⟨h1, by rw [List.length_append]; omega⟩, h3, fun w => by rw [seg_app h1 h2]; exact h4 w, k, hk, e1, e2, g0, fun w => ?_, g2⟩
  obtain ⟨s, hs, a, b, d⟩ := g1 w
  exact ⟨s, hs, a, b, by rw [seg_app hs (by omega)]; exact d⟩
theorem CL.fr {A B A' B' : v_M} {q y n : Nat} {L : List Op} (h : CL A B q y n L) (ea : ∀ i, 1 ≤ i → i ≤ 5 → A'.1 (q + i) n = A.1 (q + i) n) (eb : ∀ k, 113 ≤ k → k ≤ 118 → B'.1 k y = B.1 k y) : CL A' B' q y n L := by
  obtain ⟨f, t, h1, h3, h4, k, hk, e1, e2, g0, g1, g2⟩ := h
  refine ⟨f, t, h1, ?_, h4, k, hk, by rw [ea 1 (by omega) (by omega), e1], by rw [eb 113 (by omega) (by omega), e2], ?_, ?_, ?_⟩
  · rw [ea 4 (by omega) (by omega), ea 5 (by omega) (by omega), eb 117 (by omega) (by omega), eb 118 (by omega) (by omega)]; exact h3
  · rw [ea 2 (by omega) (by omega), ea 3 (by omega) (by omega), eb 114 (by omega) (by omega), eb 115 (by omega) (by omega)]; exact g0
  · rw [ea 2 (by omega) (by omega), eb 116 (by omega) (by omega)]; exact g1
  · rw [ea 2 (by omega) (by omega), eb 114 (by omega) (by omega)]; exact g2
