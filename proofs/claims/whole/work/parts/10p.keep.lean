/-! what stays -/
theorem J_time.keep {W : List Nat} {O : List (Nat × Nat)} {M M' : v_M} (hf : v_fr W O M M') (h0 : (W.contains 0 || O.contains (0, 0)) = false) (h1 : (W.contains 79 || O.contains (79, 1)) = false) (h : J_time M ) : J_time M'  := by
  unfold J_time at h ⊢
  rw [v_keepC hf 0 0 h0, v_keepC hf 79 1 h1]
  exact h
theorem J_tapec.keep {W : List Nat} {O : List (Nat × Nat)} {M M' : v_M} {n : Nat} (hf : v_fr W O M M') (hk : ([37, 107].all (fun k => !(W.contains k || O.any (fun q => q.1 == k)))) = true) (h0 : (W.contains 36 || O.contains (36, 0)) = false) (h1 : (W.contains 79 || O.contains (79, 32)) = false) (h : J_tapec M n) : J_tapec M' n := by
  have e : ∀ k ∈ [37, 107], M'.1 k = M.1 k := fun k hm => v_keepR hf k (by have := List.all_eq_true.mp hk k hm; simpa using this)
  unfold J_tapec at h ⊢
  rw [v_keepC hf 36 0 h0, v_keepC hf 79 32 h1, e 37 (by decide), e 107 (by decide)]
  exact h
theorem J_seenc.keep {W : List Nat} {O : List (Nat × Nat)} {M M' : v_M} {nm n : Nat} (hf : v_fr W O M M') (hk : ([61, 62, 63, 128, 129, 130, 131].all (fun k => !(W.contains k || O.any (fun q => q.1 == k)))) = true) (h0 : (W.contains 52 || O.contains (52, 9)) = false) (h1 : (W.contains 79 || O.contains (79, 61)) = false) (h : J_seenc M nm n) : J_seenc M' nm n := by
  have e : ∀ k ∈ [61, 62, 63, 128, 129, 130, 131], M'.1 k = M.1 k := fun k hm => v_keepR hf k (by have := List.all_eq_true.mp hk k hm; simpa using this)
  unfold J_seenc at h ⊢
  rw [v_keepC hf 52 9 h0, v_keepC hf 79 61 h1, e 61 (by decide), e 62 (by decide), e 63 (by decide), e 128 (by decide), e 129 (by decide), e 130 (by decide), e 131 (by decide)]
  exact h
theorem J_papc.keep {W : List Nat} {O : List (Nat × Nat)} {M M' : v_M} {nm n : Nat} (hf : v_fr W O M M') (hk : ([72, 73, 75, 76, 140, 141, 142, 143].all (fun k => !(W.contains k || O.any (fun q => q.1 == k)))) = true) (h0 : (W.contains 71 || O.contains (71, 0)) = false) (h1 : (W.contains 79 || O.contains (79, 80)) = false) (h : J_papc M nm n) : J_papc M' nm n := by
  have e : ∀ k ∈ [72, 73, 75, 76, 140, 141, 142, 143], M'.1 k = M.1 k := fun k hm => v_keepR hf k (by have := List.all_eq_true.mp hk k hm; simpa using this)
  unfold J_papc at h ⊢
  rw [v_keepC hf 71 0 h0, v_keepC hf 79 80 h1, e 72 (by decide), e 73 (by decide), e 75 (by decide), e 76 (by decide), e 140 (by decide), e 141 (by decide), e 142 (by decide), e 143 (by decide)]
  exact h
theorem J_seenc.more {M : v_M} {nm nm' n : Nat} (h : J_seenc M nm n) (hn : nm ≤ nm') : J_seenc M nm' n := by
  obtain ⟨h1, h2, h3, h4⟩ := h
  refine ⟨h1, h2, h3, fun i hi => ?_⟩
  obtain ⟨m, t, d, a, b⟩ := h4 i hi
  exact ⟨m, t, d, by omega, b⟩
theorem J_papc.more {M : v_M} {nm nm' n : Nat} (h : J_papc M nm n) (hn : nm ≤ nm') : J_papc M nm' n := by
  obtain ⟨h1, h2, h3, h4, h5⟩ := h
  refine ⟨h1, h2, h3, fun i hi => ?_, h5⟩
  obtain ⟨a, b, c⟩ := h4 i hi
  exact ⟨a, b.imp id (fun ⟨m, hm, q⟩ => ⟨m, by omega, q⟩), c⟩
