/-! an order: what stays -/
def clp (A B : v_M) : v_M := (fun k => if k < 41 then A.1 k else if k < 48 then B.1 k else if k < 150 then A.1 k else B.1 k, fun k => if k < 41 then A.2 k else if k < 48 then B.2 k else if k < 150 then A.2 k else B.2 k)
theorem clp_t {A B : v_M} (h : J_time (clp A B)) : J_time A := h
theorem clp_d {A B : v_M} {c : Nat} (h : J_drawc (clp A B) c) : J_drawc A c := h
theorem clp_f {A B : v_M} {np nm : Nat} (h : J_fleetc (clp A B) np nm) : J_fleetc A np nm := h
theorem clp_c {A B : v_M} {np nc : Nat} (h : J_chgc (clp A B) np nc) : J_chgc A np nc := h
theorem clp_s {A B : v_M} {nm n : Nat} (h : J_stac (clp A B) nm n) : J_stac A nm n := h
theorem clp_e {A B : v_M} {nm n : Nat} (h : J_seenc (clp A B) nm n) : J_seenc A nm n := h
theorem clp_p {A B : v_M} {nm n : Nat} (h : J_papc (clp A B) nm n) : J_papc A nm n := h
def orW : List Nat := [38, 39, 40, 108, 109, 110, 111, 112, 113, 114, 115, 116, 117, 118, 119]
def orO : List (Nat × Nat) := [(0, 1), (35, 2), (35, 3), (35, 4), (35, 5), (35, 6), (36, 0), (36, 1), (36, 2), (79, 32), (79, 33), (79, 34), (79, 35), (79, 36), (79, 37), (79, 38), (79, 39)]
/-- all cells but the Reader's order's, the new ones, and these -/
def oKp (n qo : Nat) (M M2 : v_M) : Prop := (∀ k j, k < n → (k < qo ∨ qo + 6 < k) → k ∉ orW → (k, j) ∉ orO → M2.1 k j = M.1 k j) ∧ ∀ k, k < n → (k < qo ∨ qo + 6 < k) → k ∉ orW → M2.2 k = M.2 k
theorem clp_fr {n qo : Nat} {M M2 : v_M} (hn : 150 ≤ n) (hq : qo = 41 ∨ 150 ≤ qo) (h : oKp n qo M M2) : v_fr orW orO M (clp M2 M) := by
  refine ⟨fun k j h1 h2 => ?_, fun k h1 => ?_⟩
  · show (if k < 41 then M2.1 k else if k < 48 then M.1 k else if k < 150 then M2.1 k else M.1 k) j = M.1 k j
    by_cases a : k < 41
    · rw [if_pos a]; exact h.1 k j (by omega) (by omega) h1 h2
    · by_cases b : k < 48
      · rw [if_neg a, if_pos b]
      · by_cases c : k < 150
        · rw [if_neg a, if_neg b, if_pos c]; exact h.1 k j (by omega) (by omega) h1 h2
        · rw [if_neg a, if_neg b, if_neg c]
  · show (if k < 41 then M2.2 k else if k < 48 then M.2 k else if k < 150 then M2.2 k else M.2 k) = M.2 k
    by_cases a : k < 41
    · rw [if_pos a]; exact h.2 k (by omega) (by omega) h1
    · by_cases b : k < 48
      · rw [if_neg a, if_pos b]
      · by_cases c : k < 150
        · rw [if_neg a, if_neg b, if_pos c]; exact h.2 k (by omega) (by omega) h1
        · rw [if_neg a, if_neg b, if_neg c]
theorem oKp.row {n qo : Nat} {M M2 : v_M} (h : oKp n qo M M2) {k : Nat} (h1 : k < n) (h2 : k < qo ∨ qo + 6 < k) (h3 : k ∉ orW) (h4 : k ∉ [0, 35, 36, 79]) : M2.1 k = M.1 k := by
  funext j
  refine h.1 k j h1 h2 h3 (fun w => h4 ?_)
  simp only [orO, List.mem_cons, List.not_mem_nil, or_false, Prod.mk.injEq] at w ⊢
  omega
theorem oKp.hi {n qo : Nat} {M M2 : v_M} (h : oKp n qo M M2) {k : Nat} (h1 : k < n) (h2 : k < qo ∨ qo + 6 < k) (h3 : (41 ≤ k ∧ k < 48) ∨ 150 ≤ k) : M2.1 k = M.1 k := h.row h1 h2 (fun w => by simp only [orW, List.mem_cons, List.not_mem_nil, or_false] at w; omega) (fun w => by simp only [List.mem_cons, List.not_mem_nil, or_false] at w; omega)
theorem mrk_ord {sh : v_S} {P P2 : v_P} {M M2 : v_M} {np qo : Nat} (hL : v_Lay sh P) (hPO : v_PO sh P) (hor : v_Or sh P qo) (hq : qo = 41 ∨ 150 ≤ qo) (hk : oKp sh.length qo M M2) (h : J_mrk P M np) (e77 : ∀ k, P2 77 k = P 77 k) : J_mrk P2 M2 np := by
  have l2 := v_Lay_len hL
  have e : ∀ k ∈ [78, 145, 146, 147, 148, 149], M2.1 k = M.1 k := fun k hm => hk.row (by simp only [List.mem_cons, List.not_mem_nil, or_false] at hm; omega) (by simp only [List.mem_cons, List.not_mem_nil, or_false] at hm; omega) (fun w => by simp only [orW, List.mem_cons, List.not_mem_nil, or_false] at hm w; omega) (fun w => by simp only [List.mem_cons, List.not_mem_nil, or_false] at hm w; omega)
  refine ⟨fun k hk' => ?_, fun k k' q h1 h2 p1 p2 => ?_⟩
  · unfold J_mk
    rw [e77]
    rcases h.1 k hk' with ⟨a, b⟩ | ⟨q, npk, nmk, dk, a, b, c, d, g⟩
    · exact Or.inl ⟨a, by rw [e 149 (by decide)]; exact b⟩
    · have fl := hPO.2 k q a
      have ll := Fl_len fl
      have ap := ap_fo fl hor
      refine Or.inr ⟨q, npk, nmk, dk, a, b, c, d, mkd_c g ?_ (fun j hj => hk.hi (by omega) (by omega) (by omega)) (fun j _ _ => by rw [e 145 (by decide)])⟩
      rw [e 78 (by decide), e 146 (by decide), e 147 (by decide), e 148 (by decide), e 149 (by decide)]
      exact ⟨rfl, rfl, rfl, rfl, rfl⟩
  · rw [e77] at p1 p2
    exact h.2 k k' q h1 h2 p1 p2
theorem cl_j {M : v_M} {q o c : Nat} {L : List Op} : J_cl M q o L c ↔ CL M M q (12 * o + c) c L := Iff.rfl
theorem or1_keep {M M2 : v_M} {q o : Nat} {L : List Op} (e1 : ∀ j, j ≤ 6 → M2.1 (q + j) = M.1 (q + j)) (e2 : ∀ k, 110 ≤ k → k ≤ 112 → M2.1 k o = M.1 k o) (e3 : ∀ i, i < 300 → M2.1 108 (300 * o + i) = M.1 108 (300 * o + i) ∧ M2.1 109 (300 * o + i) = M.1 109 (300 * o + i)) (e4 : ∀ k i, 113 ≤ k → k ≤ 118 → i < 12 → M2.1 k (12 * o + i) = M.1 k (12 * o + i)) (h : J_or1 M q o L) : J_or1 M2 q o L := by
  obtain ⟨h1, ⟨d, hd, h2, h3⟩, ⟨h4, h5⟩, nc, h6, h7, h8, h9⟩ := h
  have e0 : M2.1 q = M.1 q := e1 0 (by omega)
  refine ⟨by rw [e2 110 (by omega) (by omega), e0]; exact h1, ⟨d, hd, by rw [e0]; exact h2, by rw [e2 111 (by omega) (by omega)]; exact h3⟩, ⟨h4, fun p op hp => ?_⟩, nc, h6, by rw [e0]; exact h7, by rw [e2 112 (by omega) (by omega)]; exact h8, fun c hc => ?_⟩
  · have lt := (List.getElem?_eq_some_iff.mp hp).1
    rw [e1 6 (by omega), (e3 p (by omega)).1, (e3 p (by omega)).2]
    exact h5 p op hp
  · exact cl_j.mpr ((cl_j.mp (h9 c hc)).fr (fun i _ _ => by rw [e1 i (by omega)]) (fun k k1 k2 => e4 k c k1 k2 (by omega)))
theorem ords_keep {sh : v_S} {P : v_P} {M M2 : v_M} {no qo : Nat} (hPO : v_PO sh P) (hor : v_Or sh P qo) (hro : P 35 1 = some qo) (hk : oKp sh.length qo M M2) (h : J_ordc P M no) (z1 : ∀ i, i < 300 * no → M2.1 108 i = M.1 108 i ∧ M2.1 109 i = M.1 109 i) (z2 : ∀ k i, 113 ≤ k → k ≤ 118 → i < 12 * no → M2.1 k i = M.1 k i) (z3 : ∀ k i, 110 ≤ k → k ≤ 112 → i < no → M2.1 k i = M.1 k i) : ∀ o, o < no → ∃ (q : Nat) (L : List Op), P 48 o = some q ∧ (q = 41 ∨ 150 ≤ q) ∧ J_or1 M2 q o L := by
  intro o ho
  obtain ⟨q, L, p1, p2, p3⟩ := h.2.1 o ho
  have vo := hPO.1 o q p1
  have ll := Or_len vo
  have ne : q ≠ qo := fun w => h.2.2.2 o q ho p1 (by rw [hro, w])
  have ap := ap_oo vo hor ne
  exact ⟨q, L, p1, p2, or1_keep (fun j hj => hk.hi (by omega) (by omega) (by omega)) (fun k k1 k2 => z3 k o k1 k2 ho) (fun i hi => z1 _ (by omega)) (fun k i k1 k2 hi => z2 k _ k1 k2 (by omega)) p3⟩
theorem mods {sh : v_S} {P : v_P} {M M2 : v_M} {qo np nm nc n ns nr : Nat} (hL : v_Lay sh P) (hq : qo = 41 ∨ 150 ≤ qo) (hk : oKp sh.length qo M M2) (ht : J_time M) (hd : J_drawc M np) (hf : J_fleetc M np nm) (hc : J_chgc M np nc) (hs : J_stac M nm n) (he : J_seenc M nm ns) (hp : J_papc M nm nr) : J_time M2 ∧ J_drawc M2 np ∧ J_fleetc M2 np nm ∧ J_chgc M2 np nc ∧ J_stac M2 nm n ∧ J_seenc M2 nm ns ∧ J_papc M2 nm nr := by
  have fr := clp_fr (v_Lay_len hL) hq hk
  unfold orW orO at fr
  exact ⟨clp_t (J_time.keep fr (by decide) (by decide) ht), clp_d (J_drawc.keep fr (by decide) (by decide) (by decide) hd), clp_f (J_fleetc.keep fr (by decide) (by decide) (by decide) hf), clp_c (J_chgc.keep fr (by decide) (by decide) (by decide) hc), clp_s (J_stac.keep fr (by decide) (by decide) (by decide) hs), clp_e (J_seenc.keep fr (by decide) (by decide) (by decide) he), clp_p (J_papc.keep fr (by decide) (by decide) (by decide) hp)⟩
