/-! hooks that hold: lists -/
def flt (x : Nat) (L : List Nat) : List Nat := L.filter (fun v => !decide (v < x))
def hlf : Nat → Nat → List Nat → List Nat
  | 0, _, L => L
  | n + 1, d, L => if L.length = 0 then L else if (flt ((d + L.length - 1) / L.length) L).length = L.length then flt ((d + L.length - 1) / L.length) L else hlf n d (flt ((d + L.length - 1) / L.length) L)
theorem flt_le (x : Nat) (L : List Nat) : (flt x L).length ≤ L.length := List.length_filter_le _ _
theorem flt_m {x : Nat} {L : List Nat} {B : Nat} (h : ∀ v ∈ L, v ≤ B) : ∀ v ∈ flt x L, v ≤ B := fun v hv => h v (List.mem_filter.mp hv).1
theorem hlf_m {B d : Nat} : ∀ (n : Nat) (L : List Nat), (∀ v ∈ L, v ≤ B) → (∀ v ∈ hlf n d L, v ≤ B) ∧ (hlf n d L).length ≤ L.length := by
  intro n
  induction n with
  | zero => intro L h; exact ⟨h, Nat.le_refl _⟩
  | succ n ih =>
    intro L h
    rw [hlf]
    split
    · exact ⟨h, Nat.le_refl _⟩
    · split
      · exact ⟨flt_m h, flt_le _ _⟩
      · have := ih _ (flt_m (x := (d + L.length - 1) / L.length) h)
        exact ⟨this.1, Nat.le_trans this.2 (flt_le _ _)⟩
theorem hlf_st {d : Nat} : ∀ (n m : Nat) (L : List Nat), L.length ≤ n → L.length ≤ m → hlf n d L = hlf m d L := by
  intro n
  induction n with
  | zero =>
    intro m L h1 h2
    have : L.length = 0 := by omega
    cases m with
    | zero => rfl
    | succ m => rw [hlf, hlf, if_pos this]
  | succ n ih =>
    intro m L h1 h2
    by_cases z : L.length = 0
    · cases m with
      | zero => rw [hlf, hlf, if_pos z]
      | succ m => rw [hlf, hlf, if_pos z, if_pos z]
    · cases m with
      | zero => omega
      | succ m =>
        rw [hlf, hlf, if_neg z, if_neg z]
        by_cases q : (flt ((d + L.length - 1) / L.length) L).length = L.length
        · rw [if_pos q, if_pos q]
        · rw [if_neg q, if_neg q]
          have := flt_le ((d + L.length - 1) / L.length) L
          exact ih m _ (by omega) (by omega)
def rwo (F : Nat → Int32) (o : Nat) (L : List Nat) : Prop := ∀ j v, L[j]? = some v → F (o + j) = nI v
theorem rwo_c {F : Nat → Int32} {o q : Nat} {Q : List Nat} (h : rwo F o (q :: Q)) : F o = nI q ∧ rwo F (o + 1) Q := ⟨h 0 q rfl, fun j v e => by
  rw [show o + 1 + j = o + (j + 1) by omega]
  exact h (j + 1) v e⟩
theorem rwo_u {F G : Nat → Int32} {o : Nat} {L : List Nat} (h : rwo F o L) (hg : ∀ j, j < L.length → G (o + j) = F (o + j)) : rwo G o L := fun j v e => by
  have : j < L.length := (List.getElem?_eq_some_iff.mp e).1
  rw [hg j this]
  exact h j v e
theorem rwo_a {F : Nat → Int32} {L : List Nat} {q : Nat} (h : rwo F 0 L) (hq : F L.length = nI q) : rwo F 0 (L ++ [q]) := fun j v e => by
  by_cases z : j < L.length
  · rw [List.getElem?_append_left z] at e
    exact h j v e
  · rw [List.getElem?_append_right (by omega)] at e
    have : j - L.length = 0 := by
      have := (List.getElem?_eq_some_iff.mp e).1
      rw [List.length_singleton] at this
      omega
    rw [this] at e
    have e' : q = v := by simpa using e
    rw [Nat.zero_add, show j = L.length by omega, hq, e']
theorem e_cut1 (N : Nat) (K : Int32 → Int32 → Int32 → v_M → Option (Int32 × v_M)) (x1 x4 : Int32) {n x : Nat} (hn : n ≤ 24) (hx : x ≤ 100000000) : ∀ (Q P : List Nat) (i f : Nat) (M : v_M), i + Q.length = n → P.length ≤ i → Q.length < f → (∀ v ∈ Q, v ≤ 100000) → rwo (M.1 28) 0 P → rwo (M.1 28) i Q → ∃ M' : v_M, f_X2_holdAgainst_L31 N K f x1 (nI n) x4 (nI x) (nI P.length) (nI i) M = f_X2_holdAgainst_L79 N K x1 (nI n) x4 (nI (P ++ flt x Q).length) M' ∧ v_fr [28] [] M M' ∧ rwo (M'.1 28) 0 (P ++ flt x Q) := by
  intro Q
  induction Q with
  | nil =>
    intro P i f M hi hP hf hQ h1 h2
    obtain ⟨f, rfl⟩ : ∃ q, f = q + 1 := ⟨f - 1, by omega⟩
    have : i = n := hi
    refine ⟨M, ?_, v_frR, by rw [show flt x [] = [] from rfl, List.append_nil]; exact h1⟩
    rw [f_X2_holdAgainst_L31, if_pos (nI_le (by omega) (by omega)), show flt x [] = [] from rfl, List.append_nil]
  | cons q Q ih =>
    intro P i f M hi hP hf hQ h1 h2
    obtain ⟨f, rfl⟩ : ∃ q, f = q + 1 := ⟨f - 1, by omega⟩
    obtain ⟨r1, r2⟩ := rwo_c h2
    rw [List.length_cons] at hi hf
    have qb := hQ q (List.mem_cons_self ..)
    rw [f_X2_holdAgainst_L31, if_neg (nI_ge (show i < n by omega) (by omega)), if_neg (show ¬ (24 : Int32) ≤ nI i from nI_ge (b := 24) (by omega) (by omega))]
    simp only [v_ibN (show i < 24 by omega) (show 24 < 2 ^ 31 by omega), nI_clamp (show i < 2 ^ 31 by omega), v_ibN (show P.length < 24 by omega) (show 24 < 2 ^ 31 by omega), nI_clamp (show P.length < 2 ^ 31 by omega), v_ckT, v_letE, r1, f_X2_holdAgainst_L73, nI_1]
    by_cases z : q < x
    · rw [if_pos (nI_lt z (by omega)), show flt x (q :: Q) = flt x Q by unfold flt; rw [List.filter_cons_of_neg (by simp [z])]]
      exact ih P (i + 1) f M (by omega) (by omega) (by omega) (fun v hv => hQ v (List.mem_cons_of_mem _ hv)) h1 r2
    · rw [if_neg (nI_nlt (by omega) (by omega)), show flt x (q :: Q) = q :: flt x Q by unfold flt; rw [List.filter_cons_of_pos (by simp [z])]]
      have fr : v_fr [28] [] M (v_wr M 28 P.length (nI q)) := v_frw (by decide) v_frR
      have lp : (P ++ [q]).length = P.length + 1 := by rw [List.length_append]; rfl
      obtain ⟨M', s1, s2, s3⟩ := ih (P ++ [q]) (i + 1) f (v_wr M 28 P.length (nI q)) (by omega) (by rw [lp]; omega) (by omega) (fun v hv => hQ v (List.mem_cons_of_mem _ hv)) (rwo_a (rwo_u h1 (fun j hj => by rw [v_rd, if_neg (fun y => by omega)])) (by rw [v_rd, if_pos ⟨rfl, rfl⟩])) (rwo_u r2 (fun j hj => by rw [v_rd, if_neg (fun y => by omega)]))
      rw [lp] at s1
      rw [List.append_assoc] at s1 s3
      exact ⟨M', s1, v_frT fr s2, s3⟩
theorem e_hold1 {N : Nat} (hN : 100 ≤ N) {d : Nat} (hd : d ≤ 50000000) : ∀ (k r f : Nat) (L : List Nat) (M : v_M), L.length ≤ k → L.length + r ≤ 24 → k < f → (∀ v ∈ L, v ≤ 100000) → rwo (M.1 28) 0 L → ∃ M' : v_M, f_X2_holdAgainst_L5 N f (nI d) (nI L.length) (nI r) M = some (nI (hlf k d L).length, M') ∧ v_fr [28] [] M M' ∧ rwo (M'.1 28) 0 (hlf k d L) := by
  intro k
  induction k with
  | zero =>
    intro r f L M h1 h2 hf hB hr
    obtain ⟨f, rfl⟩ : ∃ q, f = q + 1 := ⟨f - 1, by omega⟩
    have l0 : L.length = 0 := by omega
    refine ⟨M, ?_, v_frR, hr⟩
    rw [f_X2_holdAgainst_L5, hlf, l0]
    by_cases z : (24 : Int32) ≤ nI r
    · rw [if_pos z]
    · rw [if_neg z, if_pos (show nI 0 ≤ 0 by decide)]
  | succ k ih =>
    intro r f L M h1 h2 hf hB hr
    obtain ⟨f, rfl⟩ : ∃ q, f = q + 1 := ⟨f - 1, by omega⟩
    by_cases z : L.length = 0
    · refine ⟨M, ?_, v_frR, by rw [hlf, if_pos z]; exact hr⟩
      rw [f_X2_holdAgainst_L5, hlf, if_pos z, z]
      by_cases y : (24 : Int32) ≤ nI r
      · rw [if_pos y]
      · rw [if_neg y, if_pos (show nI 0 ≤ 0 by decide)]
    · rw [f_X2_holdAgainst_L5, if_neg (show ¬ (24 : Int32) ≤ nI r from nI_ge (b := 24) (by omega) (by omega)), if_neg (nI_nle (by omega) (by omega)), show v_nz (nI L.length) = true from by unfold v_nz; rw [decide_eq_true_iff]; exact nI_ne0 (by omega) (by omega), v_ckT, v_letE]
      have dl := Nat.div_le_self (d + L.length - 1) L.length
      rw [nI_add, show (1 : Int32) = nI 1 from rfl, nI_sub (by omega) (by omega), nI_div (by omega) (by omega)]
      obtain ⟨A, p1, p2, p3⟩ := e_cut1 N (f_X2_holdAgainst_L5 N f) (nI d) (nI r) (n := L.length) (x := (d + L.length - 1) / L.length) (by omega) (by omega) L [] 0 N M (by omega) (Nat.le_refl 0) (by omega) hB (fun j v e => by simp at e) hr
      rw [List.nil_append] at p1 p3
      rw [show (0 : Int32) = nI ([] : List Nat).length from rfl, show nI ([] : List Nat).length = nI 0 from rfl]
      rw [show nI ([] : List Nat).length = nI 0 from rfl] at p1
      rw [p1, hlf, if_neg z]
      unfold f_X2_holdAgainst_L79
      have fl := flt_le ((d + L.length - 1) / L.length) L
      by_cases y : (flt ((d + L.length - 1) / L.length) L).length = L.length
      · rw [if_pos y, if_pos (by rw [y])]
        exact ⟨A, by rw [y], p2, p3⟩
      · rw [if_neg y, if_neg (fun w => y ((nI_eqX (by omega) (by omega)).mp w)), nI_1]
        obtain ⟨A', s1, s2, s3⟩ := ih (r + 1) f (flt ((d + L.length - 1) / L.length) L) A (by omega) (by omega) (by omega) (flt_m hB) p3
        exact ⟨A', s1, v_frT p2 s2, s3⟩
theorem e_hold {N : Nat} (hN : 100 ≤ N) {d : Nat} (hd : d ≤ 50000000) {L : List Nat} {M : v_M} (h1 : L.length ≤ 24) (hB : ∀ v ∈ L, v ≤ 100000) (hr : rwo (M.1 28) 0 L) : ∃ M' : v_M, f_X2_holdAgainst N (nI d) (nI L.length) M = some (nI (hlf 24 d L).length, M') ∧ v_fr [28] [] M M' ∧ rwo (M'.1 28) 0 (hlf 24 d L) := by
  unfold f_X2_holdAgainst
  exact e_hold1 hN hd 24 0 N L M h1 (by omega) (by omega) hB hr
def gsp (rr : Nat) : Nat → Nat → List Nat → Int32
  | 0, _, _ => -2
  | s + 1, h, L => if (hlf 24 (h * rr) L).length = 0 then nI h else gsp rr s (h + 1) (hlf 24 (h * rr) L)
theorem e_height {N : Nat} (hN : 1000 ≤ N) {rr : Nat} (hr : rr ≤ 98901) : ∀ (s h f : Nat) (L : List Nat) (M : v_M), h + s = 401 → s < f → L.length ≤ 24 → (∀ v ∈ L, v ≤ 100000) → rwo (M.1 28) 0 L → ∃ M' : v_M, f_X2_heightItGoes_L9 N f (nI rr) (nI L.length) (nI h) M = some (gsp rr s h L, M') ∧ v_fr [28] [] M M' := by
  intro s
  induction s with
  | zero =>
    intro h f L M hh hf hl hB hR
    obtain ⟨f, rfl⟩ : ∃ q, f = q + 1 := ⟨f - 1, by omega⟩
    refine ⟨M, ?_, v_frR⟩
    rw [f_X2_heightItGoes_L9, if_pos (show (400 : Int32) < nI h from nI_lt (a := 400) (by omega) (by omega))]
    rfl
  | succ s ih =>
    intro h f L M hh hf hl hB hR
    obtain ⟨f, rfl⟩ : ∃ q, f = q + 1 := ⟨f - 1, by omega⟩
    have hm : h * rr ≤ 400 * 98901 := Nat.mul_le_mul (by omega) hr
    obtain ⟨A, p1, p2, p3⟩ := e_hold (show 100 ≤ N by omega) (d := h * rr) (by omega) hl hB hR
    obtain ⟨m1, m2⟩ := hlf_m (d := h * rr) 24 L hB
    rw [f_X2_heightItGoes_L9, if_neg (show ¬ (400 : Int32) < nI h from nI_nlt (a := 400) (by omega) (by omega)), nI_mul, p1, Option.bind_some, v_letE, gsp, nI_1]
    by_cases z : (hlf 24 (h * rr) L).length = 0
    · rw [if_pos z, z, if_pos (show nI 0 = 0 from rfl)]
      exact ⟨A, rfl, p2⟩
    · rw [if_neg z, if_neg (nI_ne0 (by omega) (by omega))]
      obtain ⟨A', s1, s2⟩ := ih (h + 1) f (hlf 24 (h * rr) L) A (by omega) (by omega) (by omega) m1 p3
      exact ⟨A', s1, v_frT p2 s2⟩
