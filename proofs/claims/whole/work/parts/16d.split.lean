/-! split -/
def t_sI (k : Nat) : Int32 := if k = 999 then -1 else nI k
def t_nI (c : Nat → Nat) (T p : Nat) : Int32 := if 5 < t_eD c T p - p then -1 else nI (t_val c (t_eD c T p - p) p 0)
theorem t_sI_eq {k j : Nat} (hk : k < 2 ^ 31) (hj : j < 2 ^ 31) (h : ¬ j = 999) : t_sI k = nI j ↔ k = j := by
  unfold t_sI
  by_cases e : k = 999
  · rw [if_pos e]; exact ⟨fun q => absurd q.symm (nI_nm1 hj), fun q => absurd (q.symm.trans e) h⟩
  · rw [if_neg e, nI_eqX hk hj]
theorem t_sI_m {k : Nat} (hk : k < 2 ^ 31) : t_sI k = -1 ↔ k = 999 := by
  unfold t_sI
  by_cases e : k = 999
  · rw [if_pos e]; exact ⟨fun _ => e, fun _ => rfl⟩
  · rw [if_neg e]; exact ⟨fun q => absurd q (nI_nm1 hk), fun q => absurd q e⟩
theorem t_by_m {c : Nat → Nat} {T p : Nat} (hc : ∀ i, i < T → c i ≤ 255) : t_by c T p = -1 ↔ T ≤ p := by
  unfold t_by
  by_cases h : p < T
  · rw [if_pos h]; exact ⟨fun q => absurd q (nI_nm1 (by have := hc p h; omega)), fun q => by omega⟩
  · rw [if_neg h]; exact ⟨fun _ => by omega, fun _ => rfl⟩
theorem t_by_60 {c : Nat → Nat} {T p : Nat} (hc : ∀ i, i < T → c i ≤ 255) : t_by c T p = 60 ↔ p < T ∧ c p = 60 := t_by_eq (k := 60) hc (by omega)
theorem t_by_61 {c : Nat → Nat} {T p : Nat} (hc : ∀ i, i < T → c i ≤ 255) : t_by c T p = 61 ↔ p < T ∧ c p = 61 := t_by_eq (k := 61) hc (by omega)
theorem t_by_62 {c : Nat → Nat} {T p : Nat} (hc : ∀ i, i < T → c i ≤ 255) : t_by c T p = 62 ↔ p < T ∧ c p = 62 := t_by_eq (k := 62) hc (by omega)
theorem e_one {N : Nat} (hN : 1000 ≤ N) {c : Nat → Nat} {T p n : Nat} {M : v_M} (h : TP M c T) (hp : p ≤ T) (hn : n ≤ 400) (e : M.1 36 2 = nI p) : ∃ M' : v_M, f_X9_splitOne N (nI n) M = some (t_sI (t_tk c T p), M') ∧ v_fr [40] [(36, 2)] M M' ∧ M'.1 36 2 = nI (t_te c T p) ∧ (∀ k, ¬ k = n → M'.1 40 k = M.1 40 k) ∧ (t_tk c T p = 256 → M'.1 40 n = t_nI c T p) := by
  have hT := h.1
  have hc := h.2.1
  unfold f_X9_splitOne
  rw [e, e_byte N h (by omega), Option.bind_some]
  dsimp only
  rw [v_letE, e_cDigit N hc, Option.bind_some]
  dsimp only
  rw [v01_0]
  by_cases hlt : p < T
  · have hcp := hc p hlt
    rw [decide_eq_true hlt, Bool.true_and]
    cases hd : t_isD (c p) with
    | true =>
      simp only [if_true]
      obtain ⟨M', a, b, g⟩ := e_cNum N (T - p) p 0 (N - (T - p) - 1) 0 (nI 0) M h rfl hp (by omega) e (by rw [if_neg (by omega)])
      rw [show N - (T - p) - 1 + (T - p) + 1 = N by omega, Nat.zero_add] at a
      have tk : t_tk c T p = 256 := by unfold t_tk; rw [if_neg (by omega), if_pos hd]
      have te : t_te c T p = t_eD c T p := by unfold t_te; rw [if_neg (by omega), if_pos hd]
      unfold f_X9_splitNumber
      rw [show (0 : Int32) = nI 0 from rfl, a, Option.bind_some]
      dsimp only
      rw [v_ibN (show n < 401 by omega) (by omega), v_ckT, v_letE, nI_clamp (by omega)]
      refine ⟨_, by rw [tk]; rfl, v_frw (by decide) (v_frt (by decide) (by decide) v_frR b), by rw [v_rdn (by decide), g, te], fun k hk => by rw [v_rd, if_neg (fun q => hk q.2), v_keepR b 40 (by decide)], fun _ => by rw [v_rd, if_pos ⟨rfl, rfl⟩]; rfl⟩
    | false =>
      rw [if_neg (by decide), e_cLetter N hc, Option.bind_some]
      dsimp only
      rw [v01_0, decide_eq_true hlt, Bool.true_and]
      cases hl : t_isL (c p) with
      | true =>
        simp only [if_true]
        obtain ⟨M', a, b, g⟩ := e_word N hN (p0 := p) (T - p) p 0 (N - (T - p) - 1) M h rfl (Nat.le_refl _) hp (by omega) e
        rw [show N - (T - p) - 1 + (T - p) + 1 = N by omega] at a
        have tk : t_tk c T p = t_wd c p (t_eL c T p) := by unfold t_tk; rw [if_neg (by omega), hd, if_neg (by decide), if_pos hl]
        have te : t_te c T p = t_eL c T p := by unfold t_te; rw [if_neg (by omega), hd, if_neg (by decide), if_pos hl]
        have hb := t_wd_b c p (t_eL c T p)
        unfold f_X9_splitWord
        rw [v_letE, e, show (0 : Int32) = nI 0 from rfl, a, Option.bind_some]
        refine ⟨M', by rw [tk, t_sI, if_neg (by omega)], v_frt (by decide) (by decide) v_frR b, by rw [g, te], fun k hk => by rw [v_keepR b 40 (by decide)], fun q => ?_⟩
        omega
      | false =>
        rw [if_neg (by decide), if_neg (fun q => by have := (t_by_m hc).mp q; omega)]
        unfold f_X9_splitOne_L57
        rw [v_letE, e, nI_1]
        have h' : TP (v_wr M 36 2 (nI (p + 1))) c T := h.fr (by rw [v_rd, if_neg (by decide)]) (by rw [v_wr_n (by decide)])
        have e' : (v_wr M 36 2 (nI (p + 1))).1 36 2 = nI (p + 1) := by rw [v_rd, if_pos ⟨rfl, rfl⟩]
        have f1 : v_fr [40] [(36, 2)] M (v_wr M 36 2 (nI (p + 1))) := v_fro (by decide) v_frR
        have k1 : ∀ k, (v_wr M 36 2 (nI (p + 1))).1 40 k = M.1 40 k := fun k => by rw [v_rdn (by decide)]
        have big : ∀ x, c p = x → x < 256 := fun x q => by omega
        by_cases c60 : c p = 60
        · rw [if_pos ((t_by_60 hc).mpr ⟨hlt, c60⟩)]
          unfold f_X9_splitOne_L73
          rw [e', e_byte N h' (by omega), Option.bind_some]
          dsimp only
          by_cases c1 : p + 1 < T ∧ c (p + 1) = 61
          · rw [if_pos ((t_by_61 hc).mpr c1), v_letE, e', nI_1, if_pos ((t_by_60 hc).mpr ⟨hlt, c60⟩)]
            have tk : t_tk c T p = 257 := by unfold t_tk; rw [if_neg (by omega), hd, if_neg (by decide), hl, if_neg (by decide), if_pos ⟨c60, c1⟩]
            have te : t_te c T p = p + 2 := by unfold t_te; rw [if_neg (by omega), hd, if_neg (by decide), hl, if_neg (by decide), if_pos ⟨Or.inl c60, c1⟩]
            exact ⟨_, by rw [tk]; rfl, v_fro (by decide) f1, by rw [v_rd, if_pos ⟨rfl, rfl⟩, te], fun k _ => by rw [v_rdn (by decide), k1], fun q => by omega⟩
          · rw [if_neg (fun q => c1 ((t_by_61 hc).mp q))]
            have tk : t_tk c T p = c p := by unfold t_tk; rw [if_neg (by omega), hd, if_neg (by decide), hl, if_neg (by decide), if_neg (fun q => c1 q.2), if_neg (fun q => c1 q.2)]
            have te : t_te c T p = p + 1 := by unfold t_te; rw [if_neg (by omega), hd, if_neg (by decide), hl, if_neg (by decide), if_neg (fun q => c1 q.2)]
            exact ⟨_, by rw [tk, t_by_in hlt, t_sI, if_neg (by omega)], f1, by rw [e', te], fun k _ => k1 k, fun q => by omega⟩
        · rw [if_neg (fun q => c60 ((t_by_60 hc).mp q).2)]
          by_cases c62 : c p = 62
          · rw [if_pos ((t_by_62 hc).mpr ⟨hlt, c62⟩)]
            unfold f_X9_splitOne_L73
            rw [e', e_byte N h' (by omega), Option.bind_some]
            dsimp only
            by_cases c1 : p + 1 < T ∧ c (p + 1) = 61
            · rw [if_pos ((t_by_61 hc).mpr c1), v_letE, e', nI_1, if_neg (fun q => c60 ((t_by_60 hc).mp q).2)]
              have tk : t_tk c T p = 258 := by unfold t_tk; rw [if_neg (by omega), hd, if_neg (by decide), hl, if_neg (by decide), if_neg (fun q => c60 q.1), if_pos ⟨c62, c1⟩]
              have te : t_te c T p = p + 2 := by unfold t_te; rw [if_neg (by omega), hd, if_neg (by decide), hl, if_neg (by decide), if_pos ⟨Or.inr c62, c1⟩]
              exact ⟨_, by rw [tk]; rfl, v_fro (by decide) f1, by rw [v_rd, if_pos ⟨rfl, rfl⟩, te], fun k _ => by rw [v_rdn (by decide), k1], fun q => by omega⟩
            · rw [if_neg (fun q => c1 ((t_by_61 hc).mp q))]
              have tk : t_tk c T p = c p := by unfold t_tk; rw [if_neg (by omega), hd, if_neg (by decide), hl, if_neg (by decide), if_neg (fun q => c1 q.2), if_neg (fun q => c1 q.2)]
              have te : t_te c T p = p + 1 := by unfold t_te; rw [if_neg (by omega), hd, if_neg (by decide), hl, if_neg (by decide), if_neg (fun q => c1 q.2)]
              exact ⟨_, by rw [tk, t_by_in hlt, t_sI, if_neg (by omega)], f1, by rw [e', te], fun k _ => k1 k, fun q => by omega⟩
          · rw [if_neg (fun q => c62 ((t_by_62 hc).mp q).2)]
            have tk : t_tk c T p = c p := by unfold t_tk; rw [if_neg (by omega), hd, if_neg (by decide), hl, if_neg (by decide), if_neg (fun q => c60 q.1), if_neg (fun q => c62 q.1)]
            have te : t_te c T p = p + 1 := by unfold t_te; rw [if_neg (by omega), hd, if_neg (by decide), hl, if_neg (by decide), if_neg (fun q => q.1.elim c60 c62)]
            exact ⟨_, by rw [tk, t_by_in hlt, t_sI, if_neg (by omega)], f1, by rw [e', te], fun k _ => k1 k, fun q => by omega⟩
  · rw [decide_eq_false hlt, Bool.false_and, if_neg (by decide), e_cLetter N hc, Option.bind_some]
    dsimp only
    rw [v01_0, decide_eq_false hlt, Bool.false_and, if_neg (by decide), if_pos ((t_by_m hc).mpr (by omega))]
    unfold f_X9_splitOne_L57
    rw [v_letE, e, show nI p + 0 = nI p from nI_add p 0]
    rw [if_neg (fun q => by have := (t_by_60 hc).mp q; omega), if_neg (fun q => by have := (t_by_62 hc).mp q; omega)]
    have tk : t_tk c T p = 999 := t_tk_e (by omega)
    refine ⟨_, by rw [tk, (t_by_m hc).mpr (by omega)]; rfl, v_fro (by decide) v_frR, by rw [v_rd, if_pos ⟨rfl, rfl⟩, t_te_e (by omega)], fun k _ => by rw [v_rdn (by decide)], fun q => by omega⟩
theorem v_rdS {M : v_M} {k i : Nat} {v : Int32} : (v_wr M k i v).1 k i = v := by rw [v_rd, if_pos ⟨rfl, rfl⟩]
def TS (M : v_M) (c : Nat → Nat) (T K : Nat) : Prop := K ≤ 400 ∧ T ≤ t_pl c T K ∧ (∀ k, k < K → t_pl c T k < T) ∧ M.1 36 1 = nI (K + 1) ∧ ∀ k, k ≤ K → M.1 39 k = nI (t_pl c T k) ∧ M.1 38 k = t_sI (t_tk c T (t_pl c T k)) ∧ (t_tk c T (t_pl c T k) = 256 → M.1 40 k = t_nI c T (t_pl c T k))
theorem t_tk_b {c : Nat → Nat} {T p : Nat} (hc : ∀ i, i < T → c i ≤ 255) : t_tk c T p < 1000 := by
  have h2 := t_wd_b c p (t_eL c T p)
  unfold t_tk
  split
  · omega
  · have h1 := hc p (by omega)
    repeat' split
    all_goals omega
theorem e_split_L {N : Nat} (hN : 1000 ≤ N) {c : Nat → Nat} {T : Nat} : ∀ (d n q f : Nat) (M : v_M), TP M c T → n ≤ 400 → q ≤ T → t_sk c T q = t_pl c T n → T - t_pl c T n ≤ d → M.1 36 2 = nI q → (∀ k, k < n → t_pl c T k < T ∧ M.1 39 k = nI (t_pl c T k) ∧ M.1 38 k = t_sI (t_tk c T (t_pl c T k)) ∧ (t_tk c T (t_pl c T k) = 256 → M.1 40 k = t_nI c T (t_pl c T k))) → ∃ (K : Nat) (M' : v_M), f_X9_split_L12 N (f + d + 1) (nI n) M = some (0, M') ∧ v_fr [38, 39, 40] [(36, 1), (36, 2)] M M' ∧ TS M' c T K := by
  intro d
  induction d with
  | zero =>
    intro n q f M h hn hq hs hd e hk
    have hT := h.1
    rw [f_X9_split_L12, if_neg (fun w => by rw [show (400 : Int32) = nI 400 from rfl, nI_ltX (by omega) (by omega)] at w; omega)]
    obtain ⟨M1, a1, b1, g1⟩ := e_cBlanks N (T - q) q 0 (N - (T - q) - 1) M h rfl hq (by omega) e
    rw [show N - (T - q) - 1 + (T - q) + 1 = N by omega] at a1
    unfold f_X9_skipBlanks
    rw [show (0 : Int32) = nI 0 from rfl, a1, Option.bind_some]
    dsimp only
    rw [v_ibN (show n < 401 by omega) (by omega), v_ckT, v_letE, nI_clamp (by omega), g1, hs]
    have h1 : TP (v_wr M1 39 n (nI (t_pl c T n))) c T := h.fr (by rw [v_rdn (by decide), v_keepC b1 36 0 (by decide)]) (by rw [v_wr_n (by decide), v_keepR b1 37 (by decide)])
    obtain ⟨M2, a2, b2, g2, k2, m2⟩ := e_one hN h1 (t_pl_le c T n) hn (by rw [v_rdn (by decide), g1, hs])
    have hend : t_tk c T (t_pl c T n) = 999 := t_tk_e (by omega)
    rw [a2, Option.bind_some]
    dsimp only
    rw [v_ckT, v_letE, v_letE, v_ckT, v_rdn (by decide), v_rdS, if_pos ((t_sI_m (by omega)).mpr hend), nI_1]
    refine ⟨n, _, rfl, v_fro (by decide) (v_frw (by decide) (v_frt (by decide) (by decide) (v_frw (by decide) (v_frt (by decide) (by decide) v_frR b1)) b2)), hn, by omega, fun k hkn => (hk k hkn).1, by rw [v_rd, if_pos ⟨rfl, rfl⟩], fun k hkn => ?_⟩
    by_cases c0 : k = n
    · subst c0
      refine ⟨by rw [v_rdn (by decide), v_rdn (by decide), v_keepR b2 39 (by decide), v_rd, if_pos ⟨rfl, rfl⟩], by rw [v_rdn (by decide), v_rd, if_pos ⟨rfl, rfl⟩], fun w => by omega⟩
    · obtain ⟨_, x1, x2, x3⟩ := hk k (by omega)
      refine ⟨by rw [v_rdn (by decide), v_rdn (by decide), v_keepR b2 39 (by decide), v_rd, if_neg (fun w => c0 w.2), v_keepR b1 39 (by decide), x1], by rw [v_rdn (by decide), v_rd, if_neg (fun w => c0 w.2), v_keepR b2 38 (by decide), v_rdn (by decide), v_keepR b1 38 (by decide), x2], fun w => by rw [v_rdn (by decide), v_rdn (by decide), k2 k c0, v_rdn (by decide), v_keepR b1 40 (by decide), x3 w]⟩
  | succ d ih =>
    intro n q f M h hn hq hs hd e hk
    have hT := h.1
    rw [show f + (d + 1) + 1 = (f + d + 1) + 1 by omega, f_X9_split_L12, if_neg (fun w => by rw [show (400 : Int32) = nI 400 from rfl, nI_ltX (by omega) (by omega)] at w; omega)]
    obtain ⟨M1, a1, b1, g1⟩ := e_cBlanks N (T - q) q 0 (N - (T - q) - 1) M h rfl hq (by omega) e
    rw [show N - (T - q) - 1 + (T - q) + 1 = N by omega] at a1
    unfold f_X9_skipBlanks
    rw [show (0 : Int32) = nI 0 from rfl, a1, Option.bind_some]
    dsimp only
    rw [v_ibN (show n < 401 by omega) (by omega), v_ckT, v_letE, nI_clamp (by omega), g1, hs]
    have h1 : TP (v_wr M1 39 n (nI (t_pl c T n))) c T := h.fr (by rw [v_rdn (by decide), v_keepC b1 36 0 (by decide)]) (by rw [v_wr_n (by decide), v_keepR b1 37 (by decide)])
    obtain ⟨M2, a2, b2, g2, k2, m2⟩ := e_one hN h1 (t_pl_le c T n) hn (by rw [v_rdn (by decide), g1, hs])
    rw [a2, Option.bind_some]
    dsimp only
    have tb := t_tk_b (c := c) (T := T) (p := t_pl c T n) h.2.1
    rw [v_ckT, v_letE, v_letE, v_ckT, v_rdn (by decide), v_rdS, nI_1]
    have fr : v_fr [38, 39, 40] [(36, 1), (36, 2)] M (v_wr (v_wr M2 38 n (t_sI (t_tk c T (t_pl c T n)))) 36 1 (nI (n + 1))) := v_fro (by decide) (v_frw (by decide) (v_frt (by decide) (by decide) (v_frw (by decide) (v_frt (by decide) (by decide) v_frR b1)) b2))
    have rows : ∀ k, k ≤ n → (v_wr (v_wr M2 38 n (t_sI (t_tk c T (t_pl c T n)))) 36 1 (nI (n + 1))).1 39 k = nI (t_pl c T k) ∧ (v_wr (v_wr M2 38 n (t_sI (t_tk c T (t_pl c T n)))) 36 1 (nI (n + 1))).1 38 k = t_sI (t_tk c T (t_pl c T k)) ∧ (t_tk c T (t_pl c T k) = 256 → (v_wr (v_wr M2 38 n (t_sI (t_tk c T (t_pl c T n)))) 36 1 (nI (n + 1))).1 40 k = t_nI c T (t_pl c T k)) := by
      intro k hkn
      by_cases c0 : k = n
      · subst c0
        refine ⟨by rw [v_rdn (by decide), v_rdn (by decide), v_keepR b2 39 (by decide), v_rd, if_pos ⟨rfl, rfl⟩], by rw [v_rdn (by decide), v_rd, if_pos ⟨rfl, rfl⟩], fun w => by rw [v_rdn (by decide), v_rdn (by decide), m2 w]⟩
      · obtain ⟨_, x1, x2, x3⟩ := hk k (by omega)
        refine ⟨by rw [v_rdn (by decide), v_rdn (by decide), v_keepR b2 39 (by decide), v_rd, if_neg (fun w => c0 w.2), v_keepR b1 39 (by decide), x1], by rw [v_rdn (by decide), v_rd, if_neg (fun w => c0 w.2), v_keepR b2 38 (by decide), v_rdn (by decide), v_keepR b1 38 (by decide), x2], fun w => by rw [v_rdn (by decide), v_rdn (by decide), k2 k c0, v_rdn (by decide), v_keepR b1 40 (by decide), x3 w]⟩
    by_cases pe : T ≤ t_pl c T n
    · rw [if_pos (show t_sI (t_tk c T (t_pl c T n)) = -1 from (t_sI_m (by omega)).mpr (t_tk_e pe))]
      exact ⟨n, _, rfl, fr, hn, pe, fun k hkn => (hk k hkn).1, by rw [v_rd, if_pos ⟨rfl, rfl⟩], rows⟩
    · rw [if_neg (fun w => pe ((t_tk_end h.2.1).mp ((t_sI_m (by omega)).mp w)))]
      have hg := t_pl_ge (c := c) (T := T) (k := n) (by omega)
      have ng : t_pl c T n < t_pl c T (n + 1) := t_nx_gt (by omega)
      have h3 : TP (v_wr (v_wr M2 38 n (t_sI (t_tk c T (t_pl c T n)))) 36 1 (nI (n + 1))) c T := h.fr (v_keepC fr 36 0 (by decide)) (v_keepR fr 37 (by decide))
      obtain ⟨K, M', a, b, g⟩ := ih (n + 1) (t_te c T (t_pl c T n)) f _ h3 (by omega) (t_te_le (by omega)) rfl (by omega) (by rw [v_rd, if_neg (by decide), v_rdn (by decide), g2]) (fun k hkn => by
        have r := rows k (by omega)
        refine ⟨?_, r⟩
        by_cases c0 : k = n
        · subst c0; omega
        · exact (hk k (by omega)).1)
      exact ⟨K, M', a, v_frT fr b, g⟩
theorem e_split {N : Nat} (hN : 1000 ≤ N) {c : Nat → Nat} {T : Nat} {M : v_M} (h : TP M c T) : ∃ (K : Nat) (M' : v_M), f_X9_split N M = some (0, M') ∧ v_fr [38, 39, 40] [(36, 1), (36, 2)] M M' ∧ TS M' c T K := by
  have hT := h.1
  unfold f_X9_split
  rw [v_letE, v_letE]
  have f0 : v_fr [38, 39, 40] [(36, 1), (36, 2)] M (v_wr (v_wr M 36 2 0) 36 1 0) := v_fro (by decide) (v_fro (by decide) v_frR)
  obtain ⟨K, M', a, b, g⟩ := e_split_L hN (c := c) (T := T) T 0 0 (N - T - 1) (v_wr (v_wr M 36 2 0) 36 1 0) (h.fr (v_keepC f0 36 0 (by decide)) (v_keepR f0 37 (by decide))) (by omega) (by omega) rfl (by omega) (by rw [v_rd, if_neg (by decide), v_rd, if_pos ⟨rfl, rfl⟩]; rfl) (fun k hk => absurd hk (Nat.not_lt_zero k))
  rw [show N - T - 1 + T + 1 = N by omega] at a
  exact ⟨K, M', a, v_frT f0 b, g⟩
