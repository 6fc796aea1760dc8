/-! odds, first -/
theorem e_behind (N : Nat) {u c : Nat} (hu : u ≤ 1000000) (hc : c ≤ 1000000) (M : v_M) : f_X12_behind N (kL c) (nI u) M = some (kL (c - lss c u), M) := by
  have cu : c * u ≤ 1000000000000 := Nat.le_trans (Nat.mul_le_mul hc hu) (by omega)
  unfold f_X12_behind
  rw [kL_of (by omega), e_n1 hc hu cu, kL_nzM, v_ckT, kL_sub (lss_le hu) (by omega)]
theorem e_odds2 (N : Nat) {u n : Nat} (hu : u ≤ 1000000) (hn : n ≤ 9999) (M : v_M) : ∀ (s f k c : Nat), k + s = n → s < f → c ≤ 1000000 → f_X12_odds_L28 N f (nI u) (nI n) (kL c) (nI k) M = some (nI (1000000 - bhn u s c), M) := by
  intro s
  induction s with
  | zero =>
    intro f k c hk hf hc
    obtain ⟨f, rfl⟩ : ∃ q, f = q + 1 := ⟨f - 1, by omega⟩
    rw [f_X12_odds_L28, if_pos (nI_le (by omega) (by omega)), kL_M, kL_sub hc (by omega), kL_to (by omega)]
    rfl
  | succ s ih =>
    intro f k c hk hf hc
    obtain ⟨f, rfl⟩ : ∃ q, f = q + 1 := ⟨f - 1, by omega⟩
    rw [f_X12_odds_L28, if_neg (nI_ge (show k < n by omega) (by omega)), e_behind N hu hc]
    simp only [Option.bind_some, v_letE, nI_1]
    rw [ih f (k + 1) (c - lss c u) (by omega) (by omega) (by omega), bhn_s]
theorem e_none {N : Nat} (hN : 10000 ≤ N) {u n c : Nat} (hu : u ≤ 1000000) (hn : n ≤ 9999) (hc : c ≤ 1000000) (M : v_M) : f_X11_noneAfter N (nI c) (nI u) (nI n) M = some (nI (bhn u n c), M) := by
  unfold f_X11_noneAfter
  rw [kL_of (by omega), v_letE]
  exact e_none1 N hu hn M N n 0 c (by omega) (by omega) hc
theorem e_isChance (N : Nat) (x : Int32) (M : v_M) : f_X12_isChance N x M = some (v_wi x 0 1000000, M) := by
  unfold f_X12_isChance
  rw [l_0, l_1000000, e_in2]
  simp only [Option.bind_some, v_wi01, v_ckT]
theorem st_odds {N : Nat} (hN : 10000 ≤ N) (x1 x2 : Int32) (M : v_M) : ∃ r : Int32, f_X11_odds N x1 x2 M = some (r, M) ∧ f_X12_odds N x1 x2 M = some (r, M) := by
  unfold f_X11_odds f_X12_odds
  simp only [e_isChance, l_0, l_9999, e_in2, e_within, Option.bind_some]
  by_cases a1 : 0 ≤ x1 ∧ x1 ≤ 1000000
  rotate_left
  · exact ⟨-1, by rw [v_wiFe a1], by rw [v_wiFe a1]⟩
  rw [v_wiTe a1, v_wiTe a1]
  by_cases a2 : 0 ≤ x2 ∧ x2 ≤ 9999
  rotate_left
  · exact ⟨-1, by rw [v_wiFe a2], by rw [v_wiFe a2]⟩
  rw [v_wiTe a2, v_wiTe a2]
  obtain ⟨u, hu, rfl⟩ := i_idx (c := 1000001) (by omega) (show 0 ≤ x1 ∧ x1 ≤ nI 1000001 - 1 from a1)
  obtain ⟨n, hn, rfl⟩ := i_idx (c := 10000) (by omega) (show 0 ≤ x2 ∧ x2 ≤ nI 10000 - 1 from a2)
  have e1 := e_none hN (c := 1000000) (show u ≤ 1000000 by omega) (show n ≤ 9999 by omega) (by omega) M
  have e2 := e_odds2 N (show u ≤ 1000000 by omega) (show n ≤ 9999 by omega) M n N 0 1000000 (by omega) (by omega) (by omega)
  have hb := bhn_le (u := u) n 1000000
  refine ⟨nI (1000000 - bhn u n 1000000), ?_, e2⟩
  rw [show (1000000 : Int32) = nI 1000000 from rfl, e1]
  simp only [Option.bind_some, nI_sub hb (show 1000000 < 2 ^ 31 by omega)]
def fst1 (u n p : Nat) : Nat → Nat → Nat → Int32
  | 0, _, _ => -2
  | s + 1, y, c => if 1000000 - bhn u n c < p then fst1 u n p s (y + 1) (bhn u n c) else nI y
theorem e_first1 {N : Nat} (hN : 10000 ≤ N) {u n p : Nat} (hu : u ≤ 1000000) (hn : n ≤ 9999) (hp : p ≤ 1000000) (M : v_M) : ∀ (s f y c : Nat), y + s = 100 → s < f → c ≤ 1000000 → f_X11_first_L43 N f (nI u) (nI n) (nI p) (nI c) (nI y) M = some (fst1 u n p s y c, M) := by
  intro s
  induction s with
  | zero =>
    intro f y c hy hf hc
    obtain ⟨f, rfl⟩ : ∃ q, f = q + 1 := ⟨f - 1, by omega⟩
    rw [f_X11_first_L43, show (99 : Int32) = nI 99 from rfl, if_pos (nI_lt (by omega) (by omega))]
    rfl
  | succ s ih =>
    intro f y c hy hf hc
    obtain ⟨f, rfl⟩ : ∃ q, f = q + 1 := ⟨f - 1, by omega⟩
    have hb := bhn_le (u := u) n c
    rw [f_X11_first_L43, show (99 : Int32) = nI 99 from rfl, if_neg (nI_nlt (by omega) (by omega)), e_none hN hu hn hc]
    simp only [Option.bind_some, v_letE, nI_1]
    rw [show (1000000 : Int32) = nI 1000000 from rfl, nI_sub (by omega) (by omega), fst1]
    by_cases q : 1000000 - bhn u n c < p
    · rw [if_pos (nI_lt q (by omega)), if_pos q, ih f (y + 1) _ (by omega) (by omega) (by omega)]
    · rw [if_neg (nI_nlt (by omega) (by omega)), if_neg q]
theorem e_first2i (N : Nat) {u n p : Nat} (hu : u ≤ 1000000) (hn : n ≤ 9999) (hp : p ≤ 1000000) (K : Int32 → Int32 → Int32 → Int64 → Int32 → v_M → Option (Int32 × v_M)) (x6 : Int32) (M : v_M) : ∀ (s f k c : Nat), k + s = n → s < f → c ≤ 1000000 → f_X12_first_L46 N K f (nI u) (nI n) (nI p) (kL c) x6 (nI k) M = if 1000000 - bhn u s c < p then K (nI u) (nI n) (nI p) (kL (bhn u s c)) (x6 + 1) M else some (x6, M) := by
  intro s
  induction s with
  | zero =>
    intro f k c hk hf hc
    obtain ⟨f, rfl⟩ : ∃ q, f = q + 1 := ⟨f - 1, by omega⟩
    rw [f_X12_first_L46, if_pos (nI_le (by omega) (by omega)), kL_M, kL_sub hc (by omega), kL_of (by omega)]
    simp only [lg_cmp_lt, kL_lt (show 1000000 - c < 2 ^ 62 by omega) (show p < 2 ^ 62 by omega)]
    rfl
  | succ s ih =>
    intro f k c hk hf hc
    obtain ⟨f, rfl⟩ : ∃ q, f = q + 1 := ⟨f - 1, by omega⟩
    rw [f_X12_first_L46, if_neg (nI_ge (show k < n by omega) (by omega)), e_behind N hu hc]
    simp only [Option.bind_some, v_letE, nI_1]
    rw [ih f (k + 1) (c - lss c u) (by omega) (by omega) (by omega), bhn_s]
theorem e_first2 {N : Nat} (hN : 10000 ≤ N) {u n p : Nat} (hu : u ≤ 1000000) (hn : n ≤ 9999) (hp : p ≤ 1000000) (M : v_M) : ∀ (s f y c : Nat), y + s = 100 → s < f → c ≤ 1000000 → f_X12_first_L36 N f (nI u) (nI n) (nI p) (kL c) (nI y) M = some (fst1 u n p s y c, M) := by
  intro s
  induction s with
  | zero =>
    intro f y c hy hf hc
    obtain ⟨f, rfl⟩ : ∃ q, f = q + 1 := ⟨f - 1, by omega⟩
    rw [f_X12_first_L36, show (100 : Int32) = nI 100 from rfl, if_pos (nI_le (by omega) (by omega))]
    rfl
  | succ s ih =>
    intro f y c hy hf hc
    obtain ⟨f, rfl⟩ : ∃ q, f = q + 1 := ⟨f - 1, by omega⟩
    have hb := bhn_le (u := u) n c
    rw [f_X12_first_L36, show (100 : Int32) = nI 100 from rfl, if_neg (nI_ge (show y < 100 by omega) (by omega)), show (0 : Int32) = nI 0 from rfl, e_first2i N hu hn hp _ _ M n N 0 c (by omega) (by omega) hc, fst1, nI_1]
    by_cases q : 1000000 - bhn u n c < p
    · rw [if_pos q, if_pos q, ih f (y + 1) _ (by omega) (by omega) (by omega)]
    · rw [if_neg q, if_neg q]
theorem st_first {N : Nat} (hN : 10000 ≤ N) (x1 x2 x3 : Int32) (M : v_M) : ∃ r : Int32, f_X11_first N x1 x2 x3 M = some (r, M) ∧ f_X12_first N x1 x2 x3 M = some (r, M) := by
  unfold f_X11_first f_X12_first
  simp only [e_isChance, l_1, l_9999, e_in2, e_within, Option.bind_some]
  by_cases a1 : 0 ≤ x1 ∧ x1 ≤ 1000000
  rotate_left
  · exact ⟨-1, by rw [v_wiFe a1], by rw [v_wiFe a1]⟩
  rw [v_wiTe a1, v_wiTe a1]
  by_cases a2 : 1 ≤ x2 ∧ x2 ≤ 9999
  rotate_left
  · exact ⟨-1, by rw [v_wiFe a2], by rw [v_wiFe a2]⟩
  rw [v_wiTe a2, v_wiTe a2]
  by_cases a3 : 0 ≤ x3 ∧ x3 ≤ 1000000
  rotate_left
  · exact ⟨-1, by rw [v_wiFe a3], by rw [v_wiFe a3]⟩
  rw [v_wiTe a3, v_wiTe a3]
  have a2' : 0 ≤ x2 ∧ x2 ≤ nI 10000 - 1 := ⟨by have := i_le.mp a2.1; rw [i_le, i0]; rw [show (1 : Int32).toInt = 1 from rfl] at this; omega, a2.2⟩
  obtain ⟨u, hu, rfl⟩ := i_idx (c := 1000001) (by omega) (show 0 ≤ x1 ∧ x1 ≤ nI 1000001 - 1 from a1)
  obtain ⟨n, hn, rfl⟩ := i_idx (c := 10000) (by omega) a2'
  obtain ⟨p, hp, rfl⟩ := i_idx (c := 1000001) (by omega) (show 0 ≤ x3 ∧ x3 ≤ nI 1000001 - 1 from a3)
  exact ⟨_, e_first1 hN (show u ≤ 1000000 by omega) (show n ≤ 9999 by omega) (show p ≤ 1000000 by omega) M 99 N 1 1000000 (by omega) (by omega) (by omega), e_first2 hN (show u ≤ 1000000 by omega) (show n ≤ 9999 by omega) (show p ≤ 1000000 by omega) M 99 N 1 1000000 (by omega) (by omega) (by omega)⟩
