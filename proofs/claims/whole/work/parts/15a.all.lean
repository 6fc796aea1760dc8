/-! all together: what stays true -/
theorem J_stac.keep {W : List Nat} {O : List (Nat × Nat)} {M M' : v_M} {nm n : Nat} (hf : v_fr W O M M') (hk : ([53, 54, 55, 56, 57, 58, 59, 60, 122, 123, 124, 125].all (fun k => !(W.contains k || O.any (fun q => q.1 == k)))) = true) (h0 : (W.contains 52 || O.contains (52, 0)) = false) (h1 : (W.contains 79 || O.contains (79, 60)) = false) (h : J_stac M nm n) : J_stac M' nm n := by
  have e : ∀ k ∈ [53, 54, 55, 56, 57, 58, 59, 60, 122, 123, 124, 125], M'.1 k = M.1 k := fun k hm => v_keepR hf k (by have := List.all_eq_true.mp hk k hm; simpa using this)
  unfold J_stac J_sta1 J_chn wkO tfO ky at h ⊢
  rw [v_keepC hf 52 0 h0, v_keepC hf 79 60 h1, e 53 (by decide), e 54 (by decide), e 55 (by decide), e 56 (by decide), e 57 (by decide), e 58 (by decide), e 59 (by decide), e 60 (by decide), e 122 (by decide), e 123 (by decide), e 124 (by decide), e 125 (by decide)]
  exact h
theorem J_stac.more {M : v_M} {nm nm' n : Nat} (h : J_stac M nm n) (hn : nm ≤ nm') : J_stac M nm' n := by
  obtain ⟨h1, h2, h3, h4, h5⟩ := h
  refine ⟨h1, h2, h3, fun i hi => ?_, h5⟩
  obtain ⟨⟨m, t, a, b⟩, c⟩ := h4 i hi
  exact ⟨⟨m, t, by omega, b⟩, c⟩
/-- no cell of orders and of marked fleets -/
def dynF (W : List Nat) (O : List (Nat × Nat)) : Bool := W.all (fun k => decide (k < 41) || (decide (48 ≤ k) && decide (k < 150))) && O.all (fun q => decide (q.1 < 41) || (decide (48 ≤ q.1) && decide (q.1 < 150)))
theorem dyn_c {W : List Nat} {O : List (Nat × Nat)} (h : dynF W O = true) {c : Nat} (hc : (41 ≤ c ∧ c < 48) ∨ 150 ≤ c) : (W.contains c || O.any (fun q => q.1 == c)) = false := by
  unfold dynF at h
  rw [Bool.and_eq_true, List.all_eq_true, List.all_eq_true] at h
  rw [Bool.or_eq_false_iff]
  constructor
  · cases e : W.contains c with
    | false => rfl
    | true =>
      have m : c ∈ W := by simpa using e
      have := h.1 c m
      simp only [Bool.or_eq_true, Bool.and_eq_true, decide_eq_true_eq] at this
      omega
  · cases e : O.any (fun q => q.1 == c) with
    | false => rfl
    | true =>
      obtain ⟨q, m, hq⟩ := List.any_eq_true.mp e
      have := h.2 q m
      have hq' : q.1 = c := by simpa using hq
      simp only [Bool.or_eq_true, Bool.and_eq_true, decide_eq_true_eq] at this
      omega
theorem J_or1_c {A M : v_M} {q o : Nat} {L : List Op} (e1 : ∀ j, j ≤ 6 → A.1 (q + j) = M.1 (q + j)) (e2 : ∀ k ∈ [108, 109, 110, 111, 112, 113, 114, 115, 116, 117, 118], A.1 k = M.1 k) (h : J_or1 M q o L) : J_or1 A q o L := by
  have e0 : A.1 q = M.1 q := e1 0 (by omega)
  unfold J_or1 J_code J_cl at h ⊢
  rw [e0, e1 1 (by omega), e1 2 (by omega), e1 3 (by omega), e1 4 (by omega), e1 5 (by omega), e1 6 (by omega), e2 108 (by decide), e2 109 (by decide), e2 110 (by decide), e2 111 (by decide), e2 112 (by decide), e2 113 (by decide), e2 114 (by decide), e2 115 (by decide), e2 116 (by decide), e2 117 (by decide), e2 118 (by decide)]
  exact h
theorem J_ordc.keep {W : List Nat} {O : List (Nat × Nat)} {P : v_P} {M M' : v_M} {no : Nat} (hf : v_fr W O M M') (hk : ([108, 109, 110, 111, 112, 113, 114, 115, 116, 117, 118].all (fun k => !(W.contains k || O.any (fun q => q.1 == k)))) = true) (h0 : (W.contains 0 || O.contains (0, 1)) = false) (h1 : (W.contains 79 || O.contains (79, 35)) = false) (hd : dynF W O = true) (h : J_ordc P M no) : J_ordc P M' no := by
  have e : ∀ k ∈ [108, 109, 110, 111, 112, 113, 114, 115, 116, 117, 118], M'.1 k = M.1 k := fun k hm => v_keepR hf k (by have := List.all_eq_true.mp hk k hm; simpa using this)
  obtain ⟨⟨a1, a2, a3⟩, b, c⟩ := h
  refine ⟨⟨a1, by rw [v_keepC hf 0 1 h0]; exact a2, by rw [v_keepC hf 79 35 h1]; exact a3⟩, fun o ho => ?_, c⟩
  obtain ⟨q, L, p1, p2, p3⟩ := b o ho
  exact ⟨q, L, p1, p2, J_or1_c (fun j hj => v_keepR hf (q + j) (dyn_c hd (by omega))) e p3⟩
theorem J_mrk.keep {W : List Nat} {O : List (Nat × Nat)} {P : v_P} {M M' : v_M} {np : Nat} (hf : v_fr W O M M') (hk : ([78, 145, 146, 147, 148, 149].all (fun k => !(W.contains k || O.any (fun q => q.1 == k)))) = true) (hd : dynF W O = true) (h : J_mrk P M np) : J_mrk P M' np := by
  have e : ∀ k ∈ [78, 145, 146, 147, 148, 149], M'.1 k = M.1 k := fun k hm => v_keepR hf k (by have := List.all_eq_true.mp hk k hm; simpa using this)
  refine ⟨fun k hk' => ?_, h.2⟩
  rcases h.1 k hk' with ⟨a, b⟩ | ⟨q, npk, nmk, dk, a, b, c, d, g⟩
  · exact Or.inl ⟨a, by rw [e 149 (by decide)]; exact b⟩
  · refine Or.inr ⟨q, npk, nmk, dk, a, b, c, d, mkd_c g ?_ (fun j hj => v_keepR hf (q + j) (dyn_c hd (by omega))) (fun j _ _ => by rw [e 145 (by decide)])⟩
    rw [e 78 (by decide), e 146 (by decide), e 147 (by decide), e 148 (by decide), e 149 (by decide)]
    exact ⟨rfl, rfl, rfl, rfl, rfl⟩
theorem J_ordc.mark {sh : v_S} {P P2 : v_P} {M M2 : v_M} {no : Nat} (h : J_ordc P M no) (hPO : v_PO sh P) (e48 : ∀ o, P2 48 o = P 48 o) (e35 : P2 35 1 = P 35 1) (ek : ∀ k j, k < 150 → k ∉ [78, 145, 146, 147, 148, 149] → (k, j) ∉ [(79, 91), (79, 92)] → M2.1 k j = M.1 k j) (eq : ∀ q, 41 ≤ q → v_Or sh P q → ∀ j, j ≤ 6 → (q + j < 48 ∨ 150 ≤ q + j) → M2.1 (q + j) = M.1 (q + j)) : J_ordc P2 M2 no := by
  obtain ⟨⟨a1, a2, a3⟩, b, c, d⟩ := h
  have er : ∀ k ∈ [108, 109, 110, 111, 112, 113, 114, 115, 116, 117, 118], M2.1 k = M.1 k := fun k hk => funext (fun j => ek k j (by simp only [List.mem_cons, List.not_mem_nil, or_false] at hk; omega) (by simp only [List.mem_cons, List.not_mem_nil, or_false] at hk ⊢; omega) (by simp only [List.mem_cons, List.not_mem_nil, or_false, Prod.mk.injEq] at hk ⊢; omega))
  refine ⟨⟨a1, by rw [ek 0 1 (by omega) (by decide) (by decide)]; exact a2, by rw [ek 79 35 (by omega) (by decide) (by decide)]; exact a3⟩, fun o ho => ?_, fun o o' q h1 h2 p1 p2 => ?_, fun o q h1 p1 => ?_⟩
  · obtain ⟨q, L, p1, p2, p3⟩ := b o ho
    exact ⟨q, L, by rw [e48]; exact p1, p2, J_or1_c (fun j hj => eq q (by omega) (hPO.1 o q p1) j hj (by omega)) er p3⟩
  · rw [e48] at p1 p2
    exact c o o' q h1 h2 p1 p2
  · rw [e48] at p1
    rw [e35]
    exact d o q h1 p1
def II (sh : v_S) (P : v_P) (M : v_M) : Prop := v_Lay sh P ∧ v_PO sh P ∧ ∃ qo : Nat, v_Or sh P qo ∧ P 35 1 = some qo ∧ (qo = 41 ∨ 150 ≤ qo) ∧ ∃ np nm nc nt n ns nr no : Nat, J_time M ∧ J_drawc M np ∧ J_fleetc M np nm ∧ J_chgc M np nc ∧ J_tapec M nt ∧ J_stac M nm n ∧ J_seenc M nm ns ∧ J_papc M nm nr ∧ J_mrk P M np ∧ J_ordc P M no
theorem clip_t {A B : v_M} (h : J_time (clip A B)) : J_time A := h
theorem clip_d {A B : v_M} {c : Nat} (h : J_drawc (clip A B) c) : J_drawc A c := h
theorem clip_f {A B : v_M} {np nm : Nat} (h : J_fleetc (clip A B) np nm) : J_fleetc A np nm := h
theorem clip_c {A B : v_M} {np nc : Nat} (h : J_chgc (clip A B) np nc) : J_chgc A np nc := h
theorem clip_a {A B : v_M} {n : Nat} (h : J_tapec (clip A B) n) : J_tapec A n := h
theorem clip_s {A B : v_M} {nm n : Nat} (h : J_stac (clip A B) nm n) : J_stac A nm n := h
theorem clip_e {A B : v_M} {nm n : Nat} (h : J_seenc (clip A B) nm n) : J_seenc A nm n := h
theorem clip_p {A B : v_M} {nm n : Nat} (h : J_papc (clip A B) nm n) : J_papc A nm n := h
