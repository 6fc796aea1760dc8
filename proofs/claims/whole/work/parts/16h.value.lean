/-! a value -/
theorem nI_nz {F : Nat} (h : 0 < F ∧ F < 10000) : ¬ nI F = 0 := fun q => by have := (nI_eqX (a := F) (b := 0) (by omega) (by omega)).mp q; omega
theorem t_ft_0 (F : Nat) : t_ft 0 F = nI F := if_pos rfl
theorem t_ft_n {F : Nat} (h : 0 < F ∧ F < 10000) (G : Nat) : t_ft (nI F) G = nI F := if_neg (nI_nz h)
theorem FB.at {B B' : v_M} {c : Nat → Nat} {T F p : Nat} (h : TR B c T) (e2 : B'.1 79 32 = B.1 79 32) (e7 : B'.1 107 = B.1 107) (hF : 0 < F ∧ F < 10000) (e4 : B'.1 79 34 = nI F) (hp : p ≤ T) (e3 : B'.1 79 33 = nI p) : FB B' c T F := ⟨h.fr e2 e7, hF, e4, p, hp, e3⟩
theorem fb_fails (N : Nat) {B : v_M} {c : Nat → Nat} {T F : Nat} (h : FB B c T F) (x y : Int32) : ∃ B' : v_M, f_X12_fails N x y B = some (0, B') ∧ FB B' c T F := by
  obtain ⟨h1, h2, h3, p, hp, e⟩ := h
  unfold f_X12_fails
  rw [if_neg (by rw [h3]; exact nI_nz h2)]
  exact ⟨_, rfl, FB.at h1 (by rw [v_rd, if_neg (by decide)]) (by rw [v_wr_n (by decide)]) h2 (by rw [v_rdS, h3]) hp (by rw [v_rd, if_neg (by decide), e])⟩
theorem fb_count (N : Nat) {B : v_M} {c : Nat → Nat} {T F : Nat} (h : FB B c T F) (x : Int32) : ∃ B' : v_M, f_X12_isCounted N x B = some (0, B') ∧ FB B' c T F := by
  have fin : ∀ B : v_M, FB B c T F → ∃ B' : v_M, f_X12_isCounted_L15 N B = some (0, B') ∧ FB B' c T F := by
    intro B h
    obtain ⟨h1, h2, h3, p, hp, e⟩ := h
    unfold f_X12_isCounted_L15
    exact ⟨_, rfl, FB.at h1 (by rw [v_rd, if_neg (by decide)]) (by rw [v_wr_n (by decide)]) h2 (by rw [v_rd, if_neg (by decide), h3]) hp (by rw [v_rd, if_neg (by decide), e])⟩
  unfold f_X12_isCounted
  by_cases k : B.1 79 38 = 60
  · rw [if_pos k]
    obtain ⟨B1, a, b⟩ := fb_fails N h 3 x
    rw [a, Option.bind_some]
    exact fin B1 b
  · rw [if_neg k]
    exact fin B h
theorem e_count (N : Nat) {B : v_M} {o v : Nat} {L : List Op} (h : RC B o v L) (hv : v < 60) (x : Int32) : ∃ B' : v_M, f_X12_isCounted N x B = some (0, B') ∧ v_fr [] [(79, 38)] B B' ∧ RC B' o (v + 1) L := by
  obtain ⟨a, b, d, g, k, l⟩ := h
  unfold f_X12_isCounted f_X12_isCounted_L15
  rw [k, if_neg (fun q => by have := (nI_eqX (a := v) (b := 60) (by omega) (by omega)).mp q; omega), v_letE, nI_1]
  refine ⟨_, rfl, v_fro (by decide) v_frR, by rw [v_rd, if_neg (by decide), a], b, by rw [v_rd, if_neg (by decide), d], by rw [v_rd, if_neg (by decide), g], v_rdS, fun i op hi => ?_⟩
  rw [v_rdn (by decide), v_rdn (by decide)]
  exact l i op hi
theorem e_countF (N : Nat) {B : v_M} {o : Nat} {L : List Op} {c : Nat → Nat} {T p p' : Nat} (h : RC B o 60 L) (hp : PR B c T p) (hq : p' ≤ T) : ∃ B' : v_M, f_X12_isCounted N (nI p') B = some (0, B') ∧ FB B' c T (1 + 8 * p' + 3) := by
  obtain ⟨a, b, d, g, k, l⟩ := h
  obtain ⟨h1, h2, h3⟩ := hp
  have hT := h1.1
  unfold f_X12_isCounted f_X12_isCounted_L15
  rw [k, if_pos (show nI 60 = 60 from rfl), e_fails N 3 p' (x := 3) (y := nI p') rfl rfl, Option.bind_some, v_letE, a, t_ft_0]
  exact ⟨_, rfl, FB.at h1 (by rw [v_rd, if_neg (by decide), v_rd, if_neg (by decide)]) (by rw [v_wr_n (by decide), v_wr_n (by decide)]) (by omega) (by rw [v_rd, if_neg (by decide), v_rdS]) h2 (by rw [v_rd, if_neg (by decide), v_rd, if_neg (by decide), h3])⟩
theorem e_bad (N : Nat) {B : v_M} {o v : Nat} {L : List Op} {c : Nat → Nat} {T p p' w : Nat} (h : RC B o v L) (hp : PR B c T p) (hq : p' ≤ T) (hw : w < 8) {x y : Int32} (hx : x = nI w) (hy : y = nI p') : ∃ B' : v_M, f_X12_fails N x y B = some (0, B') ∧ FB B' c T (1 + 8 * p' + w) := by
  obtain ⟨h1, h2, h3⟩ := hp
  have hT := h1.1
  rw [e_fails N w p' hx hy, h.1, t_ft_0]
  exact ⟨_, rfl, FB.at h1 (by rw [v_rd, if_neg (by decide)]) (by rw [v_wr_n (by decide)]) (by omega) v_rdS h2 (by rw [v_rd, if_neg (by decide), h3])⟩
theorem e_wordOf (N : Nat) {k : Nat} (hk : k < 7) (M : v_M) : f_X12_wordOf N (nI k) M = some (6 + k, M) := by
  have : k = 0 ∨ k = 1 ∨ k = 2 ∨ k = 3 ∨ k = 4 ∨ k = 5 ∨ k = 6 := by omega
  rcases this with rfl | rfl | rfl | rfl | rfl | rfl | rfl <;> rfl
theorem t_ix_w : ∀ k, k < 7 → t_ix.getD (6 + k) 0 = 8 + k := by decide
theorem e_val38 {N : Nat} (hN : 1000 ≤ N) {B : v_M} {c : Nat → Nat} {T p : Nat} (h : PR B c T p) (y : Int32) : ∀ (d k f : Nat), k + d = 7 → f_X12_value_L38 N (f + d + 1) y (nI k) B = if 268 + k ≤ t_tk c T p ∧ t_tk c T p ≤ 274 then f_X12_value_L61 N y (nI (t_tk c T p - 268)) B else f_X12_value_L61 N y 7 B := by
  intro d
  induction d with
  | zero =>
    intro k f hk
    obtain rfl : k = 7 := by omega
    rw [f_X12_value_L38, if_pos (by decide), if_neg (by omega)]
    rfl
  | succ d ih =>
    intro k f hk
    rw [show f + (d + 1) + 1 = (f + d + 1) + 1 by omega, f_X12_value_L38, if_neg (fun q => by have := (nI_leX (a := 7) (b := k) (by omega) (by omega)).mp q; omega), e_wordOf N (by omega), Option.bind_some]
    dsimp only
    rw [e_stands hN h.1 (by omega) (by omega) h.2.1 h.2.2, t_ix_w k (by omega), Option.bind_some]
    dsimp only
    rw [v01_0, nI_1, ih (k + 1) f (by omega)]
    by_cases w : t_tk c T p = 260 + (8 + k)
    · rw [decide_eq_true w, if_pos rfl, if_pos (by omega), show t_tk c T p - 268 = k by omega]
    · rw [decide_eq_false w, if_neg (by decide)]
      by_cases z : 268 + k ≤ t_tk c T p ∧ t_tk c T p ≤ 274
      · rw [if_pos z, if_pos (by omega)]
      · rw [if_neg z, if_neg (by omega)]
/-- what an entry may be: a number or a word -/
def okop (op : Op) : Prop := (op.1 = 0 ∧ op.2 ≤ 99999) ∨ (op.1 = 1 ∧ op.2 < 7)
theorem y_value {N : Nat} (hN : 1000 ≤ N) {B : v_M} {c : Nat → Nat} {T p o v : Nat} {L : List Op} (h : PB B c T p) (hr : RC B o v L) (hv : v ≤ 60) (hl : L.length < 300) : ∃ B' : v_M, f_X12_value N B = some (0, B') ∧
    (t_tk c T p = 256 → t_nI c T p = -1 → FB B' c T (1 + 8 * p + 1)) ∧
    (t_tk c T p = 256 → ¬ t_nI c T p = -1 → v = 60 → FB B' c T (1 + 8 * p + 3)) ∧
    (t_tk c T p = 256 → ¬ t_nI c T p = -1 → v < 60 → ∃ w : Nat, w ≤ 99999 ∧ t_nI c T p = nI w ∧ PR B' c T (t_te c T p) ∧ RC B' o (v + 1) (L ++ [(0, w)])) ∧
    (268 ≤ t_tk c T p → t_tk c T p ≤ 274 → v = 60 → FB B' c T (1 + 8 * p + 3)) ∧
    (268 ≤ t_tk c T p → t_tk c T p ≤ 274 → v < 60 → PR B' c T (t_te c T p) ∧ RC B' o (v + 1) (L ++ [(1, t_tk c T p - 268)])) ∧
    (¬ t_tk c T p = 256 → ¬ (268 ≤ t_tk c T p ∧ t_tk c T p ≤ 274) → FB B' c T (1 + 8 * p + 0)) := by
  obtain ⟨B1, a1, f1, p1⟩ := s_blanks hN h
  have r1 := hr.fp f1
  have hT := p1.1.1
  have hc := p1.1.2.1
  have hp := p1.2.1
  unfold f_X12_value
  rw [a1, Option.bind_some]
  dsimp only
  rw [v_letE, e_rDigit N p1.1 (by omega) p1.2.2, t_dig hc, p1.2.2, Option.bind_some]
  dsimp only
  rw [v01_0]
  by_cases k : t_tk c T p = 256
  · rw [decide_eq_true k, if_pos rfl, show (99999 : Int32) = nI 99999 from rfl]
    obtain ⟨w, B2, a2, f2, q2, hw, g4, gv⟩ := (e_digits hN (m := 99999) (Nat.le_refl _) p1).1 k
    rw [a2, Option.bind_some]
    dsimp only
    rw [v_letE]
    have te := t_te_le (c := c) hp
    by_cases bad : 5 < t_eD c T p - p
    · have fb : FB B2 c T (1 + 8 * p + 1) := FB.at p1.1 (v_keepC f2 79 32 (by decide)) (v_keepR f2 107 (by decide)) (by omega) (by rw [g4, if_pos (Or.inl bad), r1.1, t_ft_0]) te q2
      obtain ⟨B3, a3, b3⟩ := fb_count N fb (nI p)
      have nm : t_nI c T p = -1 := if_pos bad
      rw [a3, Option.bind_some, fb_entry N b3, Option.bind_some]
      exact ⟨B3, rfl, fun _ _ => b3, fun _ q => absurd nm q, fun _ q => absurd nm q, fun q => by omega, fun q => by omega, fun q => absurd k q⟩
    · have p2 : PR B2 c T (t_te c T p) := ⟨p1.1.fr (v_keepC f2 79 32 (by decide)) (v_keepR f2 107 (by decide)), te, q2⟩
      have r2 : RC B2 o v L := r1.fr (by rw [g4, if_neg (fun q => q.elim bad (fun z => by omega))]) (v_keepC f2 79 35 (by decide)) (v_keepC f2 79 36 (by decide)) (v_keepC f2 79 38 (by decide)) (v_keepR f2 108 (by decide)) (v_keepR f2 109 (by decide))
      have gw := gv (by omega)
      have nm : ¬ t_nI c T p = -1 := by rw [gw]; exact nI_nm1 (by omega)
      by_cases v6 : v = 60
      · subst v6
        obtain ⟨B3, a3, b3⟩ := e_countF N r2 p2 (p' := p) hp
        rw [a3, Option.bind_some, fb_entry N b3, Option.bind_some]
        exact ⟨B3, rfl, fun _ q => absurd q nm, fun _ _ _ => b3, fun _ _ q => by omega, fun q => by omega, fun q => by omega, fun q => absurd k q⟩
      · obtain ⟨B3, a3, f3, r3⟩ := e_count N r2 (by omega) (nI p)
        rw [a3, Option.bind_some]
        obtain ⟨B4, a4, f4, r4⟩ := e_entry N r3 hl (0, w) (x := 0) (y := nI w) rfl rfl
        dsimp only
        rw [a4, Option.bind_some]
        refine ⟨B4, rfl, fun _ q => absurd q nm, fun _ _ q => absurd q v6, fun _ _ _ => ⟨w, hw, gw, ⟨p2.1.fr ?_ ?_, te, ?_⟩, r4⟩, fun q => by omega, fun q => by omega, fun q => absurd k q⟩
        · rw [v_keepC f4 79 32 (by decide), v_keepC f3 79 32 (by decide)]
        · rw [v_keepR f4 107 (by decide), v_keepR f3 107 (by decide)]
        · rw [v_keepC f4 79 33 (by decide), v_keepC f3 79 33 (by decide), q2]
  · rw [decide_eq_false k, if_neg (by decide)]
    have e38 := e_val38 hN p1 (nI p) 7 0 (N - 8) rfl
    rw [show N - 8 + 7 + 1 = N by omega] at e38
    rw [show (0 : Int32) = nI 0 from rfl, e38]
    unfold f_X12_value_L61
    by_cases z : 268 ≤ t_tk c T p ∧ t_tk c T p ≤ 274
    · rw [if_pos z, if_neg (fun q => by have := (nI_eqX (a := t_tk c T p - 268) (b := 7) (by omega) (by omega)).mp q; omega)]
      have hs := (t_stand (p := p) (s := 6 + (t_tk c T p - 268)) hc (by omega) (by omega)).2 (by rw [t_ix_w _ (by omega)]; omega)
      have te := t_te_le (c := c) hp
      by_cases v6 : v = 60
      · subst v6
        obtain ⟨B3, a3, b3⟩ := e_countF N r1 p1 (p' := p) hp
        rw [a3, Option.bind_some]
        dsimp only
        rw [e_wordOf N (by omega), Option.bind_some]
        dsimp only
        rw [e_len N (by omega), Option.bind_some]
        dsimp only
        have e33 : B3.1 79 33 = nI p := by
          have := v_keepC (fr_X12_isCounted a3) 79 33 (by decide)
          rw [this, p1.2.2]
        rw [v_letE, e33, nI_add, ← hs]
        have b4 : FB (v_wr B3 79 33 (nI (t_te c T p))) c T (1 + 8 * p + 3) := FB.at b3.1 (by rw [v_rd, if_neg (by decide)]) (by rw [v_wr_n (by decide)]) b3.2.1 (by rw [v_rd, if_neg (by decide), b3.2.2.1]) te v_rdS
        rw [fb_entry N b4, Option.bind_some]
        exact ⟨_, rfl, fun q => absurd q k, fun q => absurd q k, fun q => absurd q k, fun _ _ _ => b4, fun _ _ q => by omega, fun _ q => absurd z q⟩
      · obtain ⟨B3, a3, f3, r3⟩ := e_count N r1 (by omega) (nI p)
        rw [a3, Option.bind_some]
        dsimp only
        rw [e_wordOf N (by omega), Option.bind_some]
        dsimp only
        rw [e_len N (by omega), Option.bind_some]
        dsimp only
        rw [v_letE, v_keepC f3 79 33 (by decide), p1.2.2, nI_add, ← hs]
        have f4 : v_fr [] [(79, 33)] B3 (v_wr B3 79 33 (nI (t_te c T p))) := v_fro (by decide) v_frR
        obtain ⟨B5, a5, f5, r5⟩ := e_entry N (r3.fp f4) hl (1, t_tk c T p - 268) (x := 1) (y := nI (t_tk c T p - 268)) rfl rfl
        rw [a5, Option.bind_some]
        refine ⟨B5, rfl, fun q => absurd q k, fun q => absurd q k, fun q => absurd q k, fun _ _ q => absurd q v6, fun _ _ _ => ⟨⟨p1.1.fr ?_ ?_, te, ?_⟩, r5⟩, fun _ q => absurd z q⟩
        · rw [v_keepC f5 79 32 (by decide), v_keepC f4 79 32 (by decide), v_keepC f3 79 32 (by decide)]
        · rw [v_keepR f5 107 (by decide), v_keepR f4 107 (by decide), v_keepR f3 107 (by decide)]
        · rw [v_keepC f5 79 33 (by decide), v_rdS]
    · rw [if_neg z, if_pos rfl]
      obtain ⟨B3, a3, b3⟩ := e_bad N r1 p1 (p' := p) (w := 0) hp (by omega) (x := 0) (y := nI p) rfl rfl
      rw [a3, Option.bind_some]
      exact ⟨B3, rfl, fun q => absurd q k, fun q => absurd q k, fun q => absurd q k, fun q r => absurd ⟨q, r⟩ z, fun q r => absurd ⟨q, r⟩ z, fun _ _ => b3⟩
