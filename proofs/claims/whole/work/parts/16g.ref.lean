/-! the reference's reading: digits, entries, counting -/
def PR (B : v_M) (c : Nat → Nat) (T p : Nat) : Prop := TR B c T ∧ p ≤ T ∧ B.1 79 33 = nI p
def PB (B : v_M) (c : Nat → Nat) (T p : Nat) : Prop := ∃ p', PR B c T p' ∧ t_sk c T p' = p
def RC (B : v_M) (o v : Nat) (L : List Op) : Prop := B.1 79 34 = 0 ∧ o < 12 ∧ B.1 79 35 = nI o ∧ B.1 79 36 = nI L.length ∧ B.1 79 38 = nI v ∧ ∀ i op, L[i]? = some op → B.1 108 (300 * o + i) = nI op.1 ∧ B.1 109 (300 * o + i) = nI op.2
def FB (B : v_M) (c : Nat → Nat) (T F : Nat) : Prop := TR B c T ∧ (0 < F ∧ F < 10000) ∧ B.1 79 34 = nI F ∧ ∃ p, p ≤ T ∧ B.1 79 33 = nI p
theorem PR.pb {B : v_M} {c : Nat → Nat} {T p : Nat} (h : PR B c T p) : PB B c T (t_sk c T p) := ⟨p, h, rfl⟩
theorem RC.fr {B B' : v_M} {o v : Nat} {L : List Op} (h : RC B o v L) (e4 : B'.1 79 34 = B.1 79 34) (e5 : B'.1 79 35 = B.1 79 35) (e6 : B'.1 79 36 = B.1 79 36) (e8 : B'.1 79 38 = B.1 79 38) (f8 : B'.1 108 = B.1 108) (f9 : B'.1 109 = B.1 109) : RC B' o v L := by
  obtain ⟨a, b, d, g, k, l⟩ := h
  refine ⟨e4.trans a, b, e5.trans d, e6.trans g, e8.trans k, ?_⟩
  rw [f8, f9]
  exact l
theorem RC.fp {B B' : v_M} {o v : Nat} {L : List Op} (h : RC B o v L) (f : v_fr [] [(79, 33)] B B') : RC B' o v L := h.fr (v_keepC f 79 34 (by decide)) (v_keepC f 79 35 (by decide)) (v_keepC f 79 36 (by decide)) (v_keepC f 79 38 (by decide)) (v_keepR f 108 (by decide)) (v_keepR f 109 (by decide))
theorem TR.fp {B B' : v_M} {c : Nat → Nat} {T : Nat} (h : TR B c T) (f : v_fr [] [(79, 33)] B B') : TR B' c T := h.fr (v_keepC f 79 32 (by decide)) (v_keepR f 107 (by decide))
theorem s_blanks {N : Nat} (hN : 1000 ≤ N) {B : v_M} {c : Nat → Nat} {T p : Nat} (h : PB B c T p) : ∃ B' : v_M, f_X12_blanks N B = some (0, B') ∧ v_fr [] [(79, 33)] B B' ∧ PR B' c T p := by
  obtain ⟨p', ⟨h1, h2, h3⟩, rfl⟩ := h
  have hT := h1.1
  obtain ⟨B', a, b, g⟩ := e_rBlanks hN h1 (by omega) h3
  exact ⟨B', a, b, h1.fp b, t_sk_le h2, g⟩
theorem fb_blanks {N : Nat} (hN : 1000 ≤ N) {B : v_M} {c : Nat → Nat} {T F : Nat} (h : FB B c T F) : ∃ B' : v_M, f_X12_blanks N B = some (0, B') ∧ FB B' c T F := by
  obtain ⟨h1, h2, h3, p, hp, e⟩ := h
  have hT := h1.1
  obtain ⟨B', a, b, g⟩ := e_rBlanks hN h1 (by omega) e
  exact ⟨B', a, h1.fp b, h2, by rw [v_keepC b 79 34 (by decide), h3], _, t_sk_le hp, g⟩
def t_ft (x : Int32) (F : Nat) : Int32 := if x = 0 then nI F else x
theorem e_fails (N : Nat) (w p : Nat) {x y : Int32} (hx : x = nI w) (hy : y = nI p) (M : v_M) : f_X12_fails N x y M = some (0, v_wr M 79 34 (t_ft (M.1 79 34) (1 + 8 * p + w))) := by
  subst hx hy
  unfold f_X12_fails t_ft
  rw [show (8 : Int32) = nI 8 from rfl, nI_mul, show (1 : Int32) = nI 1 from rfl, nI_add, nI_add]
  by_cases h : M.1 79 34 = 0
  · rw [if_pos h, if_pos h]; rfl
  · rw [if_neg h, if_neg h]; rfl
theorem e_digL (N : Nat) {c : Nat → Nat} {T b m : Nat} (hm : m ≤ 99999) : ∀ (d p f v : Nat) (M : v_M), TR M c T → T - p = d → p ≤ T → b ≤ p → M.1 79 33 = nI p → v < 10 ^ (min (p - b) 5) → ∃ (w : Nat) (M' : v_M), f_X12_digits_L25 N (f + d + 1) (nI m) (nI b) (nI v) M = some (nI w, M') ∧ v_fr [] [(79, 33), (79, 34)] M M' ∧ M'.1 79 33 = nI (t_eD c T p) ∧ w ≤ 99999 ∧ M'.1 79 34 = (if 5 < t_eD c T p - b ∨ m < w then t_ft (M.1 79 34) (1 + 8 * b + 1) else M.1 79 34) ∧ (t_eD c T p - b ≤ 5 → w = t_val c (t_eD c T p - p) p v) := by
  have fin : ∀ (p f v : Nat) (M : v_M), TR M c T → p ≤ T → b ≤ p → M.1 79 33 = nI p → v < 10 ^ (min (p - b) 5) → t_eD c T p = p → (p < T → t_isD (c p) = false) → ∃ (w : Nat) (M' : v_M), f_X12_digits_L25 N (f + 1) (nI m) (nI b) (nI v) M = some (nI w, M') ∧ v_fr [] [(79, 33), (79, 34)] M M' ∧ M'.1 79 33 = nI (t_eD c T p) ∧ w ≤ 99999 ∧ M'.1 79 34 = (if 5 < t_eD c T p - b ∨ m < w then t_ft (M.1 79 34) (1 + 8 * b + 1) else M.1 79 34) ∧ (t_eD c T p - b ≤ 5 → w = t_val c (t_eD c T p - p) p v) := by
    intro p f v M h hp hb e hv he hd
    have hT := h.1
    have hv5 : v < 100000 := Nat.lt_of_lt_of_le hv (Nat.le_trans (Nat.pow_le_pow_right (by omega) (Nat.min_le_right _ 5)) (by decide))
    have hz : (decide (p < T) && t_isD (c p)) = false := by
      by_cases q : p < T
      · rw [hd q, Bool.and_false]
      · rw [decide_eq_false q, Bool.false_and]
    rw [f_X12_digits_L25, e_rDigit N h (by omega) e, hz, Option.bind_some, he]
    dsimp only
    rw [v01_0, if_neg (by decide), e, nI_subX hb]
    have e1 : ((5 : Int32) < nI (p - b)) ↔ 5 < p - b := nI_ltX (a := 5) (by omega) (by omega)
    have e2 : (nI v ≤ nI m) ↔ v ≤ m := nI_leX (by omega) (by omega)
    unfold f_X12_digits_L87
    rw [e_fails N 1 b (x := 1) (y := nI b) rfl rfl, Option.bind_some]
    dsimp only
    have g1 : v_fr [] [(79, 33), (79, 34)] M (v_wr M 79 34 (t_ft (M.1 79 34) (1 + 8 * b + 1))) := v_fro (by decide) v_frR
    have g2 : (v_wr M 79 34 (t_ft (M.1 79 34) (1 + 8 * b + 1))).1 79 33 = nI p := by rw [v_rd, if_neg (by decide), e]
    by_cases k : 5 < p - b
    · rw [if_pos (e1.mpr k)]
      exact ⟨v, _, rfl, g1, g2, by omega, by rw [v_rdS, if_pos (Or.inl k)], fun q => by omega⟩
    · rw [if_neg (fun q => k (e1.mp q))]
      by_cases k2 : v ≤ m
      · rw [if_pos (e2.mpr k2)]
        exact ⟨v, M, rfl, v_frR, e, by omega, by rw [if_neg (fun q => q.elim k (fun w => by omega))], fun q => by rw [Nat.sub_self, t_val]⟩
      · rw [if_neg (fun q => k2 (e2.mp q))]
        exact ⟨v, _, rfl, g1, g2, by omega, by rw [v_rdS, if_pos (Or.inr (by omega))], fun q => by rw [Nat.sub_self, t_val]⟩
  intro d
  induction d with
  | zero =>
    intro p f v M h hd hp hb e hv
    exact fin p f v M h hp hb e hv (t_eD_e (by omega)) (fun q => by omega)
  | succ d ih =>
    intro p f v M h hd hp hb e hv
    have hT := h.1
    cases k : t_isD (c p) with
    | false =>
      exact fin p (f + (d + 1)) v M h hp hb e hv (t_eD_n k) (fun _ => k)
    | true =>
      have hk := t_isD_i.mp k
      have he : t_eD c T p = t_eD c T (p + 1) := t_eD_t (by omega) k
      have hg := t_eD_ge c T (p + 1)
      have h' : TR (v_wr M 79 33 (nI (p + 1))) c T := h.fr (by rw [v_rd, if_neg (by decide)]) (by rw [v_wr_n (by decide)])
      have f1 : v_fr [] [(79, 33), (79, 34)] M (v_wr M 79 33 (nI (p + 1))) := v_fro (by decide) v_frR
      have q4 : (v_wr M 79 33 (nI (p + 1))).1 79 34 = M.1 79 34 := by rw [v_rd, if_neg (by decide)]
      rw [show f + (d + 1) + 1 = (f + d + 1) + 1 by omega, f_X12_digits_L25, e_rDigit N h (by omega) e, k, decide_eq_true (show p < T by omega), Option.bind_some]
      dsimp only
      rw [v01_0, if_pos (by decide), e, nI_subX hb, e_sign N h (by omega) e, Option.bind_some]
      dsimp only
      unfold f_X12_digits_L58
      rw [v_letE, e, nI_1]
      have e1 : ((5 : Int32) ≤ nI (p - b)) ↔ 5 ≤ p - b := nI_leX (a := 5) (by omega) (by omega)
      by_cases j5 : 5 ≤ p - b
      · rw [if_pos (e1.mpr j5)]
        obtain ⟨w, M', a, b1, g, hw, g4, gv⟩ := ih (p + 1) f v (v_wr M 79 33 (nI (p + 1))) h' (by omega) (by omega) (by omega) v_rdS (by
          rw [show min (p + 1 - b) 5 = min (p - b) 5 by omega]; exact hv)
        exact ⟨w, M', a, v_frT f1 b1, by rw [g, he], hw, by rw [g4, he, q4], fun q => by omega⟩
      · rw [if_neg (fun q => j5 (e1.mp q))]
        have hvv : 10 * nI v + t_by c T p - 48 = nI (10 * v + c p - 48) := by
          rw [t_by, if_pos (by omega), show (10 : Int32) = nI 10 from rfl, show (48 : Int32) = nI 48 from rfl, nI_mul, nI_add, nI_subX (by omega)]
        rw [hvv]
        obtain ⟨w, M', a, b1, g, hw, g4, gv⟩ := ih (p + 1) f (10 * v + c p - 48) (v_wr M 79 33 (nI (p + 1))) h' (by omega) (by omega) (by omega) v_rdS (by
          rw [show min (p + 1 - b) 5 = min (p - b) 5 + 1 by omega, Nat.pow_succ]; omega)
        refine ⟨w, M', a, v_frT f1 b1, by rw [g, he], hw, by rw [g4, he, q4], fun q => ?_⟩
        rw [show t_eD c T p - p = (t_eD c T (p + 1) - (p + 1)) + 1 by omega, t_val]
        exact gv (by omega)
theorem t_dig {c : Nat → Nat} {T p : Nat} (hc : ∀ i, i < T → c i ≤ 255) : (decide (p < T) && t_isD (c p)) = decide (t_tk c T p = 256) := by
  have hb := t_wd_b c p (t_eL c T p)
  by_cases h : p < T
  · have := hc p h
    unfold t_tk
    rw [decide_eq_true h, Bool.true_and, if_neg (by omega)]
    cases k : t_isD (c p) with
    | true => rfl
    | false =>
      rw [if_neg (by decide)]
      symm
      apply decide_eq_false
      split
      · omega
      · split
        · omega
        · split <;> omega
  · rw [decide_eq_false h, Bool.false_and, t_tk_e (by omega)]; rfl
theorem t_256 {c : Nat → Nat} {T p : Nat} (hc : ∀ i, i < T → c i ≤ 255) (h : t_tk c T p = 256) : p < T ∧ t_isD (c p) = true ∧ t_te c T p = t_eD c T p := by
  have := t_dig (p := p) hc
  rw [decide_eq_true h, Bool.and_eq_true, decide_eq_true_iff] at this
  refine ⟨this.1, this.2, ?_⟩
  unfold t_te
  rw [if_neg (by omega), if_pos this.2]
theorem e_digits {N : Nat} (hN : 1000 ≤ N) {c : Nat → Nat} {T p m : Nat} (hm : m ≤ 99999) {M : v_M} (h : PR M c T p) : (t_tk c T p = 256 → ∃ (w : Nat) (M' : v_M), f_X12_digits N (nI m) M = some (nI w, M') ∧ v_fr [] [(79, 33), (79, 34)] M M' ∧ M'.1 79 33 = nI (t_te c T p) ∧ w ≤ 99999 ∧ M'.1 79 34 = (if 5 < t_eD c T p - p ∨ m < w then t_ft (M.1 79 34) (1 + 8 * p + 1) else M.1 79 34) ∧ (t_eD c T p - p ≤ 5 → t_nI c T p = nI w)) ∧ (¬ t_tk c T p = 256 → f_X12_digits N (nI m) M = some (0, v_wr M 79 34 (t_ft (M.1 79 34) (1 + 8 * p + 0)))) := by
  obtain ⟨h1, h2, h3⟩ := h
  have hT := h1.1
  unfold f_X12_digits
  rw [e_rDigit N h1 (by omega) h3, t_dig h1.2.1, Option.bind_some]
  dsimp only
  rw [v01_0, v_letE, h3, e_fails N 0 p (x := 0) (y := nI p) rfl rfl, Option.bind_some]
  constructor
  · intro k
    rw [decide_eq_true k, if_pos rfl]
    obtain ⟨w, M', a, b, g, hw, g4, gv⟩ := e_digL N (b := p) hm (T - p) p (N - (T - p) - 1) 0 M h1 rfl h2 (Nat.le_refl _) h3 (by rw [Nat.sub_self]; decide)
    rw [show N - (T - p) - 1 + (T - p) + 1 = N by omega] at a
    refine ⟨w, M', a, b, by rw [g, (t_256 h1.2.1 k).2.2], hw, g4, fun q => ?_⟩
    unfold t_nI
    rw [if_neg (by omega), gv q]
  · intro k
    rw [decide_eq_false k, if_neg (by decide)]
theorem e_entry (N : Nat) {B : v_M} {o v : Nat} {L : List Op} (h : RC B o v L) (hl : L.length < 300) (op : Op) {x y : Int32} (hx : x = nI op.1) (hy : y = nI op.2) : ∃ B' : v_M, f_X12_entry N x y B = some (0, B') ∧ v_fr [108, 109] [(79, 36)] B B' ∧ RC B' o v (L ++ [op]) := by
  subst hx hy
  obtain ⟨a, b, d, g, k, l⟩ := h
  have hi : (300 : Int32) * nI o + nI L.length = nI (300 * o + L.length) := by rw [show (300 : Int32) = nI 300 from rfl, nI_mul, nI_add]
  unfold f_X12_entry
  rw [if_pos a, d, g, hi, v_ibN (show 300 * o + L.length < 3600 by omega) (by omega), v_ckT, v_letE, nI_clamp (by omega)]
  rw [v_rdn (k := 108) (k' := 79) (by decide), v_rdn (k := 108) (k' := 79) (by decide), d, g, hi, v_ibN (show 300 * o + L.length < 3600 by omega) (by omega), v_ckT, v_letE, nI_clamp (by omega), v_letE, v_rdn (k := 109) (k' := 79) (by decide), v_rdn (k := 108) (k' := 79) (by decide), g, nI_1]
  refine ⟨_, rfl, v_fro (by decide) (v_frw (by decide) (v_frw (by decide) v_frR)), ?_, b, ?_, ?_, ?_, fun i p hp => ?_⟩
  · rw [v_rd, if_neg (by decide), v_rdn (by decide), v_rdn (by decide), a]
  · rw [v_rd, if_neg (by decide), v_rdn (by decide), v_rdn (by decide), d]
  · rw [v_rdS, List.length_append]; rfl
  · rw [v_rd, if_neg (by decide), v_rdn (by decide), v_rdn (by decide), k]
  · rw [v_rdn (by decide), v_rdn (by decide), v_rd, v_rdn (by decide), v_rd, v_rdn (by decide)]
    by_cases w : i = L.length
    · subst w
      rw [if_pos ⟨rfl, rfl⟩, if_pos ⟨rfl, rfl⟩]
      rw [List.getElem?_append_right (Nat.le_refl _), Nat.sub_self] at hp
      have : op = p := Option.some.inj hp
      rw [this]
      exact ⟨rfl, rfl⟩
    · rw [if_neg (fun y => by omega), if_neg (fun y => by omega)]
      have : i < L.length := by
        have := (List.getElem?_eq_some_iff.mp hp).1
        rw [List.length_append] at this
        simp at this
        omega
      rw [List.getElem?_append_left this] at hp
      exact l i p hp
theorem fb_entry (N : Nat) {B : v_M} {c : Nat → Nat} {T F : Nat} (h : FB B c T F) (x y : Int32) : f_X12_entry N x y B = some (0, B) := by
  unfold f_X12_entry
  rw [if_neg]
  rw [h.2.2.1]
  exact fun q => by have := (nI_eqX (a := F) (b := 0) (by have := h.2.1; omega) (by omega)).mp q; have := h.2.1; omega
