/-! the class's choosing: the search -/
def okB (wk : Nat → Nat) (dy LN : Nat → Int32) (fd : Nat → Nat) (x2 : Int32) (s : Nat) : Bool := svB wk dy LN fd s && !decide (nI s = x2)
def InC (n : Nat) (wk tf : Nat → Nat) (dy LN : Nat → Int32) (fd : Nat → Nat) (x2 : Int32) (ch : Nat → Option Nat) (us : Nat → Nat) (w0 z : Nat) (Q ps rb : Nat → Nat) (T : Nat → Bool) (M : v_M) : Prop := (SC M n wk tf dy LN fd ∧ M.1 64 0 = x2 ∧ r67 M ch ∧ r69 M n us) ∧ (∀ p, p < z → M.1 68 p = nI (Q p)) ∧ (∀ t, t < n → M.1 70 t = (if T t = true then nI (rb t) else -1) ∧ (T t = true → rb t < n)) ∧ BQ n wk tf (okB wk dy LN fd x2) ch w0 Q z ps T ∧ (∀ p, 0 < p → p < z → ps (Q p) = rb (tf ((ch (Q p)).getD 0))) ∧ (∀ t, t < n → T t = true → us t = 2) ∧ ∀ t, t < n → T t = true → ∀ w, w < 200 → hol tf ch t w = true → ∃ p, p < z ∧ Q p = w
def orT (T : Nat → Bool) (x t : Nat) : Bool := T t || decide (t = x)
theorem orT_s (T : Nat → Bool) (x : Nat) : orT T x x = true := by unfold orT; rw [decide_eq_true rfl, Bool.or_true]
theorem orT_n (T : Nat → Bool) {x t : Nat} (h : t ≠ x) : orT T x t = T t := by unfold orT; rw [decide_eq_false h, Bool.or_false]
theorem orT_m {T : Nat → Bool} {t : Nat} (x : Nat) (h : T t = true) : orT T x t = true := by unfold orT; rw [h]; rfl
def OuC (n : Nat) (wk tf : Nat → Nat) (ok : Nat → Bool) (pr : Nat → Nat) (D : Nat → Bool) (r : Int32) (M : v_M) : Prop := (r = 1 ∧ ∃ (c : Nat → Option Nat) (us : Nat → Nat), Vst n wk tf ok pr D c us ∧ r67 M c ∧ r69 M n us) ∨ (r = 0 ∧ ¬ Sat n wk tf ok pr D)
theorem e_ch1 {N n : Nat} (hN : 300 ≤ N) {wk tf : Nat → Nat} {dy LN : Nat → Int32} {fd : Nat → Nat} {x2 : Int32} {pr : Nat → Nat} {D D' : Nat → Bool} {ch : Nat → Option Nat} {us : Nat → Nat} {w0 i : Nat} (hV : Vst n wk tf (okB wk dy LN fd x2) pr D ch us) (hD : ∀ w, w < 200 → (D' w = true ↔ (D w = true ∨ w = w0))) (K : Int32 → Int32 → v_M → Option (Int32 × v_M)) (ho : ∀ (z : Nat) (Q ps rb : Nat → Nat) (T : Nat → Bool) (M : v_M), InC n wk tf dy LN fd x2 ch us w0 z Q ps rb T M → i < z → (∀ p, p < i + 1 → ∀ s, s < n → wk s = Q p → okB wk dy LN fd x2 s = true → T (tf s) = true) → ∃ (r : Int32) (M' : v_M), K (nI z) (nI (i + 1)) M = some (r, M') ∧ v_fr [67, 68, 69, 70] [] M M' ∧ OuC n wk tf (okB wk dy LN fd x2) pr D' r M') : ∀ (b m f x6 z : Nat) (Q ps rb : Nat → Nat) (T : Nat → Bool) (M : v_M), m < b → m ≤ n → m < f → x6 + m ≤ 200 → InC n wk tf dy LN fd x2 ch us w0 z Q ps rb T M → i < z → (∀ p, p < i → ∀ s, s < n → wk s = Q p → okB wk dy LN fd x2 s = true → T (tf s) = true) → (∀ s, m ≤ s → s < n → wk s = Q i → okB wk dy LN fd x2 s = true → T (tf s) = true) → ∃ (r : Int32) (M' : v_M), f_X10_choose_L53 N K f (nI z) (nI i) (ov6 (lst wk (Q i) m)) (nI x6) M = some (r, M') ∧ v_fr [67, 68, 69, 70] [] M M' ∧ OuC n wk tf (okB wk dy LN fd x2) pr D' r M' := by
  have hcv : chv n wk ch := fun w s hw e => ⟨(hV.2.1 w s hw e).1, (hV.2.1 w s hw e).2.1⟩
  intro b
  induction b with
  | zero => intro m f x6 z Q ps rb T M h; omega
  | succ b ih =>
    intro m f x6 z Q ps rb T M hb hmn hf hx hI hi hsc hsi
    obtain ⟨f, rfl⟩ : ∃ q, f = q + 1 := ⟨f - 1, by omega⟩
    obtain ⟨⟨hS, h64, h67, h69⟩, h68, h70, hq, hrb, hF, hH⟩ := id hI
    have h200 := hS.1.1
    cases hl : lst wk (Q i) m with
    | none =>
      obtain ⟨r, M', g1, g2, g3⟩ := ho z Q ps rb T M hI hi (fun p hp s hs h1 h2 => by
        by_cases y : p = i
        · rw [y] at h1
          by_cases y' : s < m
          · exact absurd h1 (lst_no m hl s y')
          · exact hsi s (by omega) hs h1 h2
        · exact hsc p (by omega) s hs h1 h2)
      refine ⟨r, M', ?_, g2, g3⟩
      rw [f_X10_choose_L53, if_pos ov6_nlt, f_X10_choose_L158, nI_1, g1]
      split <;> rfl
    | some s =>
      obtain ⟨l1, l2, l3⟩ := lst_so m s hl
      have sn : s < n := by omega
      obtain ⟨⟨a1, a2⟩, ⟨a3, a4⟩, a5, -, -, a6⟩ := hS.2.1 s sn
      rw [l2] at a5
      have next : ∀ s1, s ≤ s1 → s1 < n → wk s1 = Q i → okB wk dy LN fd x2 s1 = true → (s1 = s → T (tf s) = true) → T (tf s1) = true := fun s1 h1 h2 h3 h4 h5 => by
        by_cases y : s1 = s
        · rw [y]; exact h5 y
        · by_cases y' : s1 < m
          · exact absurd h3 (l3 s1 (by omega) y')
          · exact hsi s1 (by omega) h2 h3 h4
      rw [f_X10_choose_L53, if_neg (show ¬ (200 : Int32) ≤ nI x6 from nI_ge (b := 200) (by omega) (by omega)), if_neg (ov6_lt s (by omega)), show ov6 (some s) = nI s from rfl]
      simp only [v_letE, v_ibN (show s < 200 by omega) (show 200 < 2 ^ 31 by omega), nI_clamp (show s < 2 ^ 31 by omega), v_ckT, a3, h64, v_ibN (show tf s < 200 by omega) (show 200 < 2 ^ 31 by omega), nI_clamp (show tf s < 2 ^ 31 by omega), f_X10_choose_L143, a5, nI_1]
      have skip : (okB wk dy LN fd x2 s = true → T (tf s) = true) → ∃ (r : Int32) (M' : v_M), f_X10_choose_L53 N K f (nI z) (nI i) (ov6 (lst wk (Q i) s)) (nI (x6 + 1)) M = some (r, M') ∧ v_fr [67, 68, 69, 70] [] M M' ∧ OuC n wk tf (okB wk dy LN fd x2) pr D' r M' := fun hk => ih s f (x6 + 1) z Q ps rb T M (by omega) (by omega) (by omega) (by omega) hI hi hsc (fun s1 h1 h2 h3 h4 => next s1 h1 h2 h3 h4 (fun e => hk (by rw [← e]; exact h4)))
      by_cases c1 : nI s = x2
      · rw [if_pos c1]
        exact skip (fun z => by
          unfold okB at z
          rw [decide_eq_true c1, Bool.not_true, Bool.and_false] at z
          exact absurd z (by decide))
      rw [if_neg c1, (h70 (tf s) a4).1]
      by_cases c2 : T (tf s) = true
      · rw [if_pos c2, if_neg (nI_nm1 (by have := (h70 (tf s) a4).2 c2; omega))]
        exact skip (fun _ => c2)
      rw [if_neg c2, if_pos rfl, e_serves N hS sn, Option.bind_some, v01_0]
      by_cases c3 : svB wk dy LN fd s = true
      rotate_left
      · rw [if_neg c3]
        simp only [a5]
        exact skip (fun z => by
          unfold okB at z
          rw [Bool.eq_false_iff.mpr c3, Bool.false_and] at z
          exact absurd z (by decide))
      rw [if_pos c3]
      have oks : okB wk dy LN fd x2 s = true := by
        unfold okB
        rw [c3, decide_eq_false c1]
        rfl
      have fr : v_fr [67, 68, 69, 70] [] M (v_wr M 70 (tf s) (nI s)) := v_frw (by decide) v_frR
      have nT : ∀ t, T t = true → t ≠ tf s := fun t ht y => c2 (by rw [← y]; exact ht)
      have qT : ∀ p s1, 0 < p → p < z → ch (Q p) = some s1 → tf s1 ≠ tf s := fun p s1 p0 hp e => by
        obtain ⟨s2, e1, e2, -⟩ := hq.2.2.2 p p0 hp
        rw [e] at e1
        rw [Option.some.inj e1]
        exact nT _ e2
      have u2 := (hV.2.2 (tf s) a4).2
      rw [v_rdn (show (69 : Nat) ≠ 70 by decide), h69 (tf s) a4]
      by_cases c4 : us (tf s) = 2
      · rw [c4, if_pos (show (2 : Int32) ≤ nI 2 by decide)]
        unfold f_X10_queueHolders
        rw [v_ibN (show tf s < 200 by omega) (show 200 < 2 ^ 31 by omega), v_ckT, v_letE, nI_clamp (show tf s < 2 ^ 31 by omega), v_rdn (show (60 : Nat) ≠ 70 by decide), a6]
        have hS3 := hS.keep fr (by decide) (by decide)
        have hqT := hq.T (T' := fun t => T t || decide (t = tf s)) (fun t ht => orT_m _ ht)
        obtain ⟨M', z', Q', ps', g1, g2, g3, g4, g5, g6, g7, g8⟩ := e_qh (N := N) (rb := upn rb (tf s) s) (T := fun t => T t || decide (t = tf s)) (t := tf s) (v := s) (i := i) (orT_s _ _) ⟨rfl, sn, oks⟩ (upn_s rb (tf s) s) hcv (n + 1) n N 0 z Q ps (v_wr M 70 (tf s) (nI s)) (by omega) (Nat.le_refl _) (by omega) (by omega) hS3 hqT (fun p p0 hp => by
          rw [hrb p p0 hp]
          obtain ⟨s2, e1, e2, -⟩ := hq.2.2.2 p p0 hp
          rw [e1, Option.getD_some, upn_n _ (nT _ e2)]) hi l2.symm (fun w hw => by rw [v_rdn (by decide)]; exact h67 w hw) (fun p hp => by rw [v_rdn (by decide)]; exact h68 p hp) (fun w s1 p hw h1 h2 hp h3 => by
          by_cases p0 : p = 0
          · rw [p0, hq.1.1] at h3
            rw [← h3, hq.1.2.1] at h1
            exact nomatch h1
          · rw [← h3] at h1
            exact absurd h2 (qT p s1 (by omega) hp h1)) (fun w s1 hw h1 h2 h3 => by have := (hcv w s1 hw h1).1; omega)
        rw [show (0 : Int32) = nI 0 from rfl, g1, Option.bind_some]
        simp only [v_keepR g2 57 (by decide), v_rdn, ne_eq, Nat.reduceEqDiff, not_false_eq_true, a5]
        have fr2 : v_fr [67, 68, 69, 70] [] M M' := v_frt (by decide) (by decide) fr g2
        have k70 : ∀ t, M'.1 70 t = if t = tf s then nI s else M.1 70 t := fun t => by
          rw [v_keepR g2 70 (by decide), v_rd]
          by_cases y : t = tf s
          · rw [if_pos ⟨rfl, y⟩, if_pos y]
          · rw [if_neg (fun q => y q.2), if_neg y]
        have hI' : InC n wk tf dy LN fd x2 ch us w0 z' Q' ps' (upn rb (tf s) s) (orT T (tf s)) M' := by
          refine ⟨⟨hS.keep fr2 (by decide) (by decide), by rw [v_keepR g2 64 (by decide), v_rdn (by decide)]; exact h64, fun w hw => by rw [v_keepR g2 67 (by decide), v_rdn (by decide)]; exact h67 w hw, fun t ht => by rw [v_keepR g2 69 (by decide), v_rdn (by decide)]; exact h69 t ht⟩, g7, fun t ht => ?_, g3, g4, fun t ht hT => ?_, fun t ht hT w hw hh => ?_⟩
          · rw [k70]
            by_cases y : t = tf s
            · rw [if_pos y, y, orT_s, if_pos rfl, upn_s]
              exact ⟨rfl, fun _ => sn⟩
            · rw [if_neg y, orT_n _ y, upn_n _ y]
              exact h70 t ht
          · by_cases y : t = tf s
            · rw [y]; exact c4
            · rw [orT_n _ y] at hT
              exact hF t ht hT
          · by_cases y : t = tf s
            · rw [y] at hh
              exact g8 w hw hh
            · rw [orT_n _ y] at hT
              obtain ⟨p, hp, hp'⟩ := hH t ht hT w hw hh
              exact ⟨p, by omega, by rw [g6 p hp]; exact hp'⟩
        have Qi : Q' i = Q i := g6 i hi
        have go := ih s f (x6 + 1) z' Q' ps' (upn rb (tf s) s) (orT T (tf s)) M' (by omega) (by omega) (by omega) (by omega) hI' (by omega) (fun p hp s1 h1 h2 h3 => by
          rw [g6 p (by omega)] at h2
          exact orT_m _ (hsc p hp s1 h1 h2 h3)) (fun s1 h1 h2 h3 h4 => by
          rw [Qi] at h3
          by_cases y : s1 = s
          · rw [y]; exact orT_s _ _
          · by_cases y' : s1 < m
            · exact absurd h3 (l3 s1 (by omega) y')
            · exact orT_m _ (hsi s1 (by omega) h2 h3 h4))
        rw [Qi] at go
        obtain ⟨r, M'', k1, k2, k3⟩ := go
        exact ⟨r, M'', k1, v_frT fr2 k2, k3⟩
      · rw [if_neg (show ¬ (2 : Int32) ≤ nI (us (tf s)) from nI_ge (b := 2) (by omega) (by omega))]
        unfold f_X10_moveChoices
        simp only [v_ibN (show tf s < 200 by omega) (show 200 < 2 ^ 31 by omega), nI_clamp (show tf s < 2 ^ 31 by omega), v_ckT, v_letE, v_rdn, ne_eq, Nat.reduceEqDiff, not_false_eq_true, h69 (tf s) a4, nI_1]
        have fr2 : v_fr [67, 68, 69, 70] [] M (v_wr (v_wr M 70 (tf s) (nI s)) 69 (tf s) (nI (us (tf s) + 1))) := v_frw (by decide) fr
        have il := hq.le
        obtain ⟨M', c, m1, m2, m3, m4⟩ := e_move (N := N) hq hrb hcv (i + 1) i N 0 (v_wr (v_wr M 70 (tf s) (nI s)) 69 (tf s) (nI (us (tf s) + 1))) ch s (by omega) hi l2.symm sn oks (hS.keep fr2 (by decide) (by decide)) (by rw [v_rdn (by decide), v_rd, if_pos ⟨rfl, rfl⟩]) (fun t ht hT => by rw [v_rdn (by decide), v_rd, if_neg (fun q => nT t hT q.2), (h70 t ht).1, if_pos hT]) (fun p _ => rfl) (fun w hw => by rw [v_rdn (by decide), v_rdn (by decide)]; exact h67 w hw) (by omega) (by omega)
        rw [show (0 : Int32) = nI 0 from rfl, m1, Option.bind_some]
        refine ⟨1, M', rfl, v_frt (by decide) (by decide) fr2 m2, Or.inl ⟨rfl, c, _, hV.ag m4 (by omega) hD, m3, fun t ht => ?_⟩⟩
        rw [v_keepR m2 69 (by decide), v_rd]
        by_cases y : t = tf s
        · rw [if_pos ⟨rfl, y⟩, y, upn_s]
        · rw [if_neg (fun q => y q.2), upn_n _ y, v_rdn (by decide)]
          exact h69 t ht
