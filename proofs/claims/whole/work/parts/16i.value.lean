/-! a value, the class; behind a fault; both -/
theorem fb_digits {N : Nat} (hN : 1000 ≤ N) {B : v_M} {c : Nat → Nat} {T F m : Nat} (hm : m ≤ 99999) (h : FB B c T F) : ∃ (r : Int32) (B' : v_M), f_X12_digits N (nI m) B = some (r, B') ∧ FB B' c T F := by
  obtain ⟨h1, h2, h3, p, hp, e⟩ := h
  have hd := e_digits hN hm (⟨h1, hp, e⟩ : PR B c T p)
  by_cases k : t_tk c T p = 256
  · obtain ⟨w, B2, a2, f2, q2, hw, g4, gv⟩ := hd.1 k
    refine ⟨_, B2, a2, FB.at h1 (v_keepC f2 79 32 (by decide)) (v_keepR f2 107 (by decide)) h2 ?_ (t_te_le hp) q2⟩
    rw [g4, h3, t_ft_n h2]
    split <;> rfl
  · refine ⟨_, _, hd.2 k, FB.at h1 (by rw [v_rd, if_neg (by decide)]) (by rw [v_wr_n (by decide)]) h2 (by rw [v_rdS, h3, t_ft_n h2]) hp (by rw [v_rd, if_neg (by decide), e])⟩
theorem fb_value {N : Nat} (hN : 1000 ≤ N) {B : v_M} {c : Nat → Nat} {T F : Nat} (h : FB B c T F) : ∃ B' : v_M, f_X12_value N B = some (0, B') ∧ FB B' c T F := by
  obtain ⟨B1, a1, b1⟩ := fb_blanks hN h
  obtain ⟨h1, h2, h3, p, hp, e⟩ := id b1
  have hT := h1.1
  have p1 : PR B1 c T p := ⟨h1, hp, e⟩
  unfold f_X12_value
  rw [a1, Option.bind_some]
  dsimp only
  rw [v_letE, e_rDigit N h1 (by omega) e, t_dig h1.2.1, e, Option.bind_some]
  dsimp only
  rw [v01_0]
  by_cases k : t_tk c T p = 256
  · rw [decide_eq_true k, if_pos rfl, show (99999 : Int32) = nI 99999 from rfl]
    obtain ⟨r, B2, a2, b2⟩ := fb_digits hN (m := 99999) (Nat.le_refl _) b1
    obtain ⟨B3, a3, b3⟩ := fb_count N b2 (nI p)
    rw [a2, Option.bind_some]
    dsimp only
    rw [v_letE, a3, Option.bind_some, fb_entry N b3, Option.bind_some]
    exact ⟨B3, rfl, b3⟩
  · rw [decide_eq_false k, if_neg (by decide)]
    have e38 := e_val38 hN p1 (nI p) 7 0 (N - 8) rfl
    rw [show N - 8 + 7 + 1 = N by omega] at e38
    rw [show (0 : Int32) = nI 0 from rfl, e38]
    unfold f_X12_value_L61
    by_cases z : 268 ≤ t_tk c T p ∧ t_tk c T p ≤ 274
    · rw [if_pos z, if_neg (fun q => by have := (nI_eqX (a := t_tk c T p - 268) (b := 7) (by omega) (by omega)).mp q; omega)]
      have hs := (t_stand (p := p) (s := 6 + (t_tk c T p - 268)) h1.2.1 (by omega) (by omega)).2 (by rw [t_ix_w _ (by omega)]; omega)
      obtain ⟨B3, a3, b3⟩ := fb_count N b1 (nI p)
      rw [a3, Option.bind_some]
      dsimp only
      rw [e_wordOf N (by omega), Option.bind_some]
      dsimp only
      rw [e_len N (by omega), Option.bind_some]
      dsimp only
      have e33 : B3.1 79 33 = nI p := by
        have := v_keepC (fr_X12_isCounted a3) 79 33 (by decide)
        rw [this, e]
      rw [v_letE, e33, nI_add, ← hs]
      have b4 : FB (v_wr B3 79 33 (nI (t_te c T p))) c T F := FB.at b3.1 (by rw [v_rd, if_neg (by decide)]) (by rw [v_wr_n (by decide)]) h2 (by rw [v_rd, if_neg (by decide), b3.2.2.1]) (t_te_le hp) v_rdS
      rw [fb_entry N b4, Option.bind_some]
      exact ⟨_, rfl, b4⟩
    · rw [if_neg z, if_pos rfl]
      obtain ⟨B3, a3, b3⟩ := fb_fails N b1 0 (nI p)
      rw [a3, Option.bind_some]
      exact ⟨B3, rfl, b3⟩
theorem wi_sI {k a b : Nat} (hk : k < 1000) (ha : 0 < a ∧ a < 999) (hb : b < 999) : v_wi (t_sI k) (nI a) (nI b) = v01 (decide (a ≤ k ∧ k ≤ b)) := by
  unfold v_wi t_sI v01
  by_cases e : k = 999
  · rw [if_pos e, decide_eq_false (show ¬ (a ≤ k ∧ k ≤ b) by omega), if_neg (show ¬ false = true by decide)]
    refine if_neg ?_
    intro q
    have := i_le.mp q.1
    rw [nI_toInt (by omega), show (-1 : Int32).toInt = -1 from rfl] at this
    omega
  · rw [if_neg e]
    simp only [nI_leX (show a < 2 ^ 31 by omega) (show k < 2 ^ 31 by omega) , nI_leX (show k < 2 ^ 31 by omega) (show b < 2 ^ 31 by omega)]
    by_cases q : a ≤ k ∧ k ≤ b
    · rw [if_pos q, decide_eq_true q, if_pos rfl]
    · rw [if_neg q, decide_eq_false q, if_neg (by decide)]
theorem CR.val {A : v_M} {q : Nat} {c : Nat → Nat} {T K p v : Nat} {L : List Op} (h : CR A q c T K p v L) (v' : Nat) : CR (v_wr A 35 5 (nI v')) q c T K p v' L := by
  obtain ⟨hq, hc, hT, hS, ⟨k, hk, ek, rfl⟩, s3, s4, e5, e6, e3, ec⟩ := h
  have nq := ne35 hq
  refine ⟨hq, hc, hT, hS.fr (by rw [v_rdn (by decide)]) (by rw [v_wr_n (by decide)]) (by rw [v_wr_n (by decide)]) (by rw [v_wr_n (by decide)]), ⟨k, hk, by rw [v_rd, if_neg (by decide), ek], rfl⟩, by rw [v_rd, if_neg (by decide), s3], fun w => by rw [v_rd, if_neg (by decide), s4 w], v_rdS, by rw [v_rd, if_neg (by decide), e6], by rw [v_rdn (by omega), e3], fun i o hi => by rw [v_rdn (by omega)]; exact ec i o hi⟩
theorem CR.tk {A : v_M} {q : Nat} {c : Nat → Nat} {T K p v : Nat} {L : List Op} (h : CR A q c T K p v L) : t_tk c T p < 1000 := t_tk_b h.2.1
theorem CR.sg {A : v_M} {q : Nat} {c : Nat → Nat} {T K p v : Nat} {L : List Op} (h : CR A q c T K p v L) {j : Nat} (hj : j < 999) {x : Int32} (hx : x = nI j) : A.1 35 3 = x ↔ t_tk c T p = j := by
  rw [h.2.2.2.2.2.1, hx]
  have := h.tk
  exact t_sI_eq (by omega) (by omega) (by omega)
theorem k_val100 (N : Nat) {A : v_M} {q : Nat} {c : Nat → Nat} {T K p v : Nat} {L : List Op} (h : CR A q c T K p v L) (hl : L.length < 300) (op : Op) {x : Int32} (hx : x = cod op) : ∃ A' : v_M, f_X7_readValue_L100 N q x A = some (1, A') ∧ CR A' q c T K (t_nx c T p) v (L ++ [op]) := by
  obtain ⟨A1, a1, b1⟩ := e_emit N h hl op hx
  obtain ⟨A2, a2, b2⟩ := e_step N b1
  unfold f_X7_readValue_L100
  rw [a1, Option.bind_some]
  dsimp only
  rw [a2, Option.bind_some, v_b1, v_ckT]
  exact ⟨A2, rfl, b2⟩
theorem cod_w {t : Nat} (h : 268 ≤ t) (h2 : t ≤ 274) : (267 : Int32) - nI t = cod (1, t - 268) := by
  have : t = 268 ∨ t = 269 ∨ t = 270 ∨ t = 271 ∨ t = 272 ∨ t = 273 ∨ t = 274 := by omega
  rcases this with rfl | rfl | rfl | rfl | rfl | rfl | rfl <;> decide
theorem k_value (N : Nat) {A : v_M} {q : Nat} {c : Nat → Nat} {T K p v : Nat} {L : List Op} (h : CR A q c T K p v L) (hv : v ≤ 60) (hl : L.length < 300) : ∃ (b : Bool) (A' : v_M), f_X7_readValue N q A = some (v01 b, A') ∧
    (t_tk c T p = 256 → t_nI c T p = -1 → b = false ∧ A'.1 35 6 = nI (1 + 8 * p + 1)) ∧
    (t_tk c T p = 256 → ¬ t_nI c T p = -1 → v = 60 → b = false ∧ A'.1 35 6 = nI (1 + 8 * p + 3)) ∧
    (∀ w, t_tk c T p = 256 → t_nI c T p = nI w → w ≤ 99999 → v < 60 → b = true ∧ CR A' q c T K (t_nx c T p) (v + 1) (L ++ [(0, w)])) ∧
    (268 ≤ t_tk c T p → t_tk c T p ≤ 274 → v = 60 → b = false ∧ A'.1 35 6 = nI (1 + 8 * p + 3)) ∧
    (268 ≤ t_tk c T p → t_tk c T p ≤ 274 → v < 60 → b = true ∧ CR A' q c T K (t_nx c T p) (v + 1) (L ++ [(1, t_tk c T p - 268)])) ∧
    (¬ t_tk c T p = 256 → ¬ (268 ≤ t_tk c T p ∧ t_tk c T p ≤ 274) → b = false ∧ A'.1 35 6 = nI (1 + 8 * p + 0)) := by
  have tb := h.tk
  have s3 := h.2.2.2.2.2.1
  have e5 := h.2.2.2.2.2.2.2.1
  have h6 := h.sg (j := 256) (x := 256) (by omega) rfl
  have l5 : (nI v < (60 : Int32)) ↔ v < 60 := nI_ltX (b := 60) (by omega) (by omega)
  unfold f_X7_readValue
  rw [e_within, Option.bind_some]
  dsimp only
  rw [v_letE, s3, show (268 : Int32) = nI 268 from rfl, show (274 : Int32) = nI 274 from rfl, wi_sI tb (by omega) (by omega), ← s3]
  by_cases k : t_tk c T p = 256
  · rw [if_pos (h6.mpr k), decide_eq_false (by omega)]
    have e4 := h.2.2.2.2.2.2.1 k
    unfold f_X7_readValue_L34 f_X7_readValue_L52
    rw [if_pos (show v01 false = 0 from rfl), e4, e5]
    by_cases nm : t_nI c T p = -1
    · rw [if_pos nm]
      obtain ⟨A1, a1, b1⟩ := e_fail N h 1 (x := 1) rfl
      rw [a1, Option.bind_some, v_b0, v_ckT]
      exact ⟨false, A1, rfl, fun _ _ => ⟨rfl, b1⟩, fun _ q => absurd nm q, fun w _ z _ => absurd (z.symm.trans nm) (nI_nm1 (by omega)), fun q => by omega, fun q => by omega, fun q => absurd k q⟩
    · rw [if_neg nm]
      by_cases v6 : v < 60
      · rw [if_pos (l5.mpr v6), v_letE, if_pos (show v01 false = 0 from rfl), nI_1, v_rd, if_neg (by decide), e4]
        have hw : ∃ w, t_nI c T p = nI w := by
          refine ⟨t_val c (t_eD c T p - p) p 0, ?_⟩
          unfold t_nI at nm ⊢
          by_cases z : 5 < t_eD c T p - p
          · exact absurd (if_pos z) nm
          · exact if_neg z
        by_cases hx : ∃ w, t_nI c T p = nI w ∧ w ≤ 99999
        · obtain ⟨w, ew, wl⟩ := hx
          obtain ⟨A1, a1, b1⟩ := k_val100 N (h.val (v + 1)) hl (0, w) (x := t_nI c T p) ew
          rw [a1]
          exact ⟨true, A1, rfl, fun _ z => absurd z nm, fun _ _ z => by omega, fun w' _ z zl _ => ⟨rfl, by
            have : w' = w := (nI_eqX (by omega) (by omega)).mp (z.symm.trans ew)
            rw [this]; exact b1⟩, fun q => by omega, fun q => by omega, fun q => absurd k q⟩
        · obtain ⟨w, ew⟩ := hw
          obtain ⟨A1, a1, b1⟩ := k_val100 N (h.val (v + 1)) hl (0, w) (x := t_nI c T p) ew
          rw [a1]
          exact ⟨true, A1, rfl, fun _ z => absurd z nm, fun _ _ z => by omega, fun w' _ z zl _ => absurd ⟨w', z, zl⟩ hx, fun q => by omega, fun q => by omega, fun q => absurd k q⟩
      · rw [if_neg (fun q => v6 (l5.mp q))]
        obtain ⟨A1, a1, b1⟩ := e_fail N h 3 (x := 3) rfl
        rw [a1, Option.bind_some, v_b0, v_ckT]
        exact ⟨false, A1, rfl, fun _ z => absurd z nm, fun _ _ _ => ⟨rfl, b1⟩, fun _ _ _ _ q => absurd q v6, fun q => by omega, fun q => by omega, fun q => absurd k q⟩
  · rw [if_neg (fun q => k (h6.mp q)), v01_0]
    by_cases z : 268 ≤ t_tk c T p ∧ t_tk c T p ≤ 274
    · rw [decide_eq_true z, if_pos rfl]
      unfold f_X7_readValue_L34 f_X7_readValue_L52
      rw [if_neg (show ¬ v01 true = 0 by decide), e5]
      by_cases v6 : v < 60
      · rw [if_pos (l5.mpr v6), v_letE, if_neg (show ¬ v01 true = 0 by decide), nI_1, v_rd, if_neg (by decide), s3]
        obtain ⟨A1, a1, b1⟩ := k_val100 N (h.val (v + 1)) hl (1, t_tk c T p - 268) (x := 267 - t_sI (t_tk c T p)) (by rw [t_sI, if_neg (by omega)]; exact cod_w z.1 z.2)
        rw [a1]
        exact ⟨true, A1, rfl, fun q => absurd q k, fun q => absurd q k, fun _ q => absurd q k, fun _ _ q => by omega, fun _ _ _ => ⟨rfl, b1⟩, fun _ q => absurd z q⟩
      · rw [if_neg (fun q => v6 (l5.mp q))]
        obtain ⟨A1, a1, b1⟩ := e_fail N h 3 (x := 3) rfl
        rw [a1, Option.bind_some, v_b0, v_ckT]
        exact ⟨false, A1, rfl, fun q => absurd q k, fun q => absurd q k, fun _ q => absurd q k, fun _ _ _ => ⟨rfl, b1⟩, fun _ _ q => absurd q v6, fun _ q => absurd z q⟩
    · rw [decide_eq_false z, if_neg (by decide)]
      obtain ⟨A1, a1, b1⟩ := e_fail N h 0 (x := 0) rfl
      rw [a1, Option.bind_some, v_b0, v_ckT]
      exact ⟨false, A1, rfl, fun q => absurd q k, fun q => absurd q k, fun _ q => absurd q k, fun q r => absurd ⟨q, r⟩ z, fun q r => absurd ⟨q, r⟩ z, fun _ _ => ⟨rfl, b1⟩⟩
/-- both have found the same fault -/
def BD (A B : v_M) (c : Nat → Nat) (T : Nat) : Prop := ∃ F : Nat, A.1 35 6 = nI F ∧ FB B c T F
theorem s_value {N : Nat} (hN : 1000 ≤ N) {A B : v_M} {q : Nat} {c : Nat → Nat} {T K p v o : Nat} {L : List Op} (h : CR A q c T K p v L) (hb : PB B c T p) (hr : RC B o v L) (hv : v ≤ 60) (hl : L.length < 300) : ∃ (b : Bool) (A' B' : v_M), f_X7_readValue N q A = some (v01 b, A') ∧ f_X12_value N B = some (0, B') ∧ (b = true → v < 60 ∧ p < T ∧ ∃ op, okop op ∧ CR A' q c T K (t_nx c T p) (v + 1) (L ++ [op]) ∧ PR B' c T (t_te c T p) ∧ RC B' o (v + 1) (L ++ [op])) ∧ (b = false → BD A' B' c T) := by
  obtain ⟨b, A', ea, x1, x2, x3, x4, x5, x6⟩ := k_value N h hv hl
  obtain ⟨B', eb, y1, y2, y3, y4, y5, y6⟩ := y_value hN hb hr hv hl
  have hpt : ¬ T ≤ p ∨ t_tk c T p = 999 := by
    by_cases w : T ≤ p
    · exact Or.inr (t_tk_e w)
    · exact Or.inl w
  refine ⟨b, A', B', ea, eb, ?_, ?_⟩
  · intro hbt
    by_cases k : t_tk c T p = 256
    · by_cases nm : t_nI c T p = -1
      · have := (x1 k nm).1; rw [hbt] at this; cases this
      · by_cases v6 : v = 60
        · have := (x2 k nm v6).1; rw [hbt] at this; cases this
        · obtain ⟨w, wl, ew, p1, r1⟩ := y3 k nm (by omega)
          exact ⟨by omega, by omega, (0, w), Or.inl ⟨rfl, wl⟩, (x3 w k ew wl (by omega)).2, p1, r1⟩
    · by_cases z : 268 ≤ t_tk c T p ∧ t_tk c T p ≤ 274
      · by_cases v6 : v = 60
        · have := (x4 z.1 z.2 v6).1; rw [hbt] at this; cases this
        · exact ⟨by omega, by omega, (1, t_tk c T p - 268), Or.inr ⟨rfl, by show t_tk c T p - 268 < 7; omega⟩, (x5 z.1 z.2 (by omega)).2, y5 z.1 z.2 (by omega)⟩
      · have := (x6 k z).1; rw [hbt] at this; cases this
  · intro hbf
    by_cases k : t_tk c T p = 256
    · by_cases nm : t_nI c T p = -1
      · exact ⟨_, (x1 k nm).2, y1 k nm⟩
      · by_cases v6 : v = 60
        · exact ⟨_, (x2 k nm v6).2, y2 k nm v6⟩
        · obtain ⟨w, wl, ew, p1, r1⟩ := y3 k nm (by omega)
          have := (x3 w k ew wl (by omega)).1; rw [hbf] at this; cases this
    · by_cases z : 268 ≤ t_tk c T p ∧ t_tk c T p ≤ 274
      · by_cases v6 : v = 60
        · exact ⟨_, (x4 z.1 z.2 v6).2, y4 z.1 z.2 v6⟩
        · have := (x5 z.1 z.2 (by omega)).1; rw [hbf] at this; cases this
      · exact ⟨_, (x6 k z).2, y6 k z⟩
