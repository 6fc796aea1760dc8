/-! the reference's search: finds -/
def hWn (M : v_M) (wk : Nat → Nat) (w0 z : Nat) (Q ps : Nat → Nat) : Prop := (∀ p, 0 < p → p < z → M.1 138 (Q p) = nI (ps (Q p)) ∧ M.1 137 (Q p) = nI (wk (ps (Q p)))) ∧ M.1 137 w0 = -1
def InR (n : Nat) (wk tf : Nat → Nat) (dy LN : Nat → Int32) (fd : Nat → Nat) (x2 : Int32) (ch : Nat → Option Nat) (us : Nat → Nat) (w0 z : Nat) (Q ps : Nat → Nat) (T : Nat → Bool) (M : v_M) : Prop := (SR M n wk tf dy LN fd ∧ q136 M ch ∧ q127 M n us) ∧ (∀ p, p < z → M.1 139 p = nI (Q p)) ∧ (∀ t, t < n → M.1 133 t = v01 (T t)) ∧ BQ n wk tf (okB wk dy LN fd x2) ch w0 Q z ps T ∧ hWn M wk w0 z Q ps ∧ (∀ t, t < n → T t = true → us t = 2) ∧ ∀ t, t < n → T t = true → ∀ w, w < 200 → hol tf ch t w = true → ∃ p, p < z ∧ Q p = w
def OuR (n : Nat) (wk tf : Nat → Nat) (ok : Nat → Bool) (pr : Nat → Nat) (D : Nat → Bool) (r : Int32) (M : v_M) : Prop := (r = 1 ∧ ∃ (c : Nat → Option Nat) (us : Nat → Nat), Vst n wk tf ok pr D c us ∧ q136 M c ∧ q127 M n us) ∨ (r = 0 ∧ ¬ Sat n wk tf ok pr D)
theorem e_fq {N n : Nat} (hN : 300 ≤ N) {wk tf : Nat → Nat} {dy LN : Nat → Int32} {fd : Nat → Nat} {ok : Nat → Bool} {ch : Nat → Option Nat} {w0 t v i : Nat} {T : Nat → Bool} (K42 : Int32 → Int32 → Int32 → v_M → Option (Int32 × v_M)) (K51 : Int32 → Int32 → Int32 → Int32 → v_M → Option (Int32 × v_M)) (x2 : Int32) (hT : T t = true) (hv : tf v = t ∧ v < n ∧ ok v = true) (hcv : chv n wk ch) : ∀ (s k f z : Nat) (Q ps : Nat → Nat) (M : v_M), k + s = 200 → s < f → SR M n wk tf dy LN fd → BQ n wk tf ok ch w0 Q z ps T → hWn M wk w0 z Q ps → i < z → Q i = wk v → q136 M ch → (∀ p, p < z → M.1 139 p = nI (Q p)) → (∀ w, w < k → hol tf ch t w = true → ∃ p, p < z ∧ Q p = w) → ∃ (M' : v_M) (z' : Nat) (Q' ps' : Nat → Nat), f_X12_finds_L147 N K42 K51 f x2 (nI z) (nI i) (nI v) (nI t) (nI k) M = K51 x2 (nI z') (nI i) (nI (v + 1)) M' ∧ v_fr [137, 138, 139] [] M M' ∧ BQ n wk tf ok ch w0 Q' z' ps' T ∧ hWn M' wk w0 z' Q' ps' ∧ z ≤ z' ∧ (∀ p, p < z → Q' p = Q p) ∧ (∀ p, p < z' → M'.1 139 p = nI (Q' p)) ∧ ∀ w, w < 200 → hol tf ch t w = true → ∃ p, p < z' ∧ Q' p = w := by
  intro s
  induction s with
  | zero =>
    intro k f z Q ps M hk hf hS hq hw hi hQi h136 h139 hvis
    obtain ⟨f, rfl⟩ : ∃ q, f = q + 1 := ⟨f - 1, by omega⟩
    refine ⟨M, z, Q, ps, ?_, v_frR, hq, hw, Nat.le_refl _, fun p _ => rfl, h139, fun w hw' hh => hvis w (by omega) hh⟩
    rw [f_X12_finds_L147, if_pos (show (200 : Int32) ≤ nI k from nI_le (a := 200) (by omega) (by omega)), f_X12_finds_L233, nI_1]
  | succ s ih =>
    intro k f z Q ps M hk hf hS hq hw hi hQi h136 h139 hvis
    obtain ⟨f, rfl⟩ : ∃ q, f = q + 1 := ⟨f - 1, by omega⟩
    have h200 := hS.1.1
    have zl := hq.le
    rw [f_X12_finds_L147, if_neg (show ¬ (200 : Int32) ≤ nI k from nI_ge (b := 200) (by omega) (by omega))]
    simp only [v_ibN (show k < 200 by omega) (show 200 < 2 ^ 31 by omega), nI_clamp (show k < 2 ^ 31 by omega), v_ckT, h136 k (by omega), f_X12_finds_L227, nI_1]
    have skip : (hol tf ch t k = true → ∃ p, p < z ∧ Q p = k) → ∃ (M' : v_M) (z' : Nat) (Q' ps' : Nat → Nat), f_X12_finds_L147 N K42 K51 f x2 (nI z) (nI i) (nI v) (nI t) (nI (k + 1)) M = K51 x2 (nI z') (nI i) (nI (v + 1)) M' ∧ v_fr [137, 138, 139] [] M M' ∧ BQ n wk tf ok ch w0 Q' z' ps' T ∧ hWn M' wk w0 z' Q' ps' ∧ z ≤ z' ∧ (∀ p, p < z → Q' p = Q p) ∧ (∀ p, p < z' → M'.1 139 p = nI (Q' p)) ∧ ∀ w, w < 200 → hol tf ch t w = true → ∃ p, p < z' ∧ Q' p = w := fun hk' => ih (k + 1) f z Q ps M (by omega) (by omega) hS hq hw hi hQi h136 h139 (fun w hw' hh => by
      by_cases y : w = k
      · rw [y] at hh ⊢; exact hk' hh
      · exact hvis w (by omega) hh)
    cases hc : ch k with
    | none =>
      rw [if_pos (show ov6 none = -1 from rfl)]
      exact skip (fun hh => by rw [hol_n hc] at hh; exact absurd hh (by decide))
    | some s' =>
      have s'n := (hcv k s' (by omega) hc).1
      rw [show ov6 (some s') = nI s' from rfl, if_neg (nI_nm1 (by omega)), v_ibN (show s' < 200 by omega) (show 200 < 2 ^ 31 by omega), v_ckT, nI_clamp (show s' < 2 ^ 31 by omega), (hS.2.1 s' s'n).2.1.1]
      have tn := (hS.2.1 s' s'n).2.1.2
      have tvn : t < n := by rw [← hv.1]; exact (hS.2.1 v hv.2.1).2.1.2
      by_cases c : tf s' = t
      · rw [if_pos (by rw [c])]
        obtain ⟨b, g1, g2⟩ := e_isIn hN zl (show k < 200 by omega) (fun p hp => ⟨h139 p hp, hq.2.1 p hp⟩)
        rw [g1, Option.bind_some, v01_0]
        by_cases y : b = true
        · rw [if_pos y]
          exact skip (fun _ => g2.mp y)
        · rw [if_neg y]
          have nq : ∀ p, p < z → Q p ≠ k := fun p hp e => y (g2.mpr ⟨p, hp, e⟩)
          have zlt := hq.lt (show k < 200 by omega) nq
          simp only [v_ibN (show i < 200 by omega) (show 200 < 2 ^ 31 by omega), nI_clamp (show i < 2 ^ 31 by omega), v_ibN zlt (show 200 < 2 ^ 31 by omega), nI_clamp (show z < 2 ^ 31 by omega), v_ckT, v_letE, h139 i hi]
          have hq' := hq.enq (w := k) (s := v) (s' := s') (i := i) (by omega) nq hc (by rw [c]; exact hT) (by rw [hv.1, c]) hv.2.1 hv.2.2 hi hQi
          generalize hA : v_wr (v_wr (v_wr M 137 k (nI (Q i))) 138 k (nI v)) 139 z (nI k) = A
          have fr : v_fr [137, 138, 139] [] M A := by rw [← hA]; exact v_frw (by decide) (v_frw (by decide) (v_frw (by decide) v_frR))
          have r : ∀ j, A.1 137 j = (if j = k then nI (Q i) else M.1 137 j) ∧ A.1 138 j = (if j = k then nI v else M.1 138 j) ∧ A.1 139 j = (if j = z then nI k else M.1 139 j) := fun j => by
            rw [← hA]
            simp only [v_rd, Nat.reduceEqDiff, false_and, if_false, true_and, and_self]
          obtain ⟨M', z', Q', ps', m1, m2, m3, m4, m5, m6, m7, m8⟩ := ih (k + 1) f (z + 1) (upn Q z k) (upn ps k v) A (by omega) (by omega) (hS.keep fr (by decide) (by decide)) hq' (by
            refine ⟨fun p p0 hp => ?_, ?_⟩
            · by_cases x : p = z
              · rw [x, upn_s, upn_s, (r k).1, (r k).2.1, if_pos rfl, if_pos rfl, hQi]
                exact ⟨rfl, rfl⟩
              · rw [upn_n _ x, upn_n _ (nq p (by omega)), (r _).1, (r _).2.1, if_neg (nq p (by omega)), if_neg (nq p (by omega))]
                exact hw.1 p p0 (by omega)
            · rw [(r w0).1, if_neg (fun e => by rw [← e, hq.1.2.1] at hc; exact nomatch hc)]
              exact hw.2) (by omega) (by rw [upn_n _ (by omega)]; exact hQi) (fun w hw' => by rw [v_keepR fr 136 (by decide)]; exact h136 w hw') (fun p hp => by
            rw [(r p).2.2]
            by_cases x : p = z
            · rw [if_pos x, x, upn_s]
            · rw [if_neg x, upn_n _ x]; exact h139 p (by omega)) (fun w hw' hh => by
            by_cases x : w = k
            · exact ⟨z, by omega, by rw [upn_s, x]⟩
            · obtain ⟨p, a1, a2⟩ := hvis w (by omega) hh
              exact ⟨p, by omega, by rw [upn_n _ (by omega)]; exact a2⟩)
          exact ⟨M', z', Q', ps', m1, v_frT fr m2, m3, m4, by omega, fun p hp => by rw [m6 p (by omega), upn_n _ (by omega)], m7, m8⟩
      · rw [if_neg (fun q => c ((nI_eqX (by omega) (by omega)).mp q))]
        exact skip (fun hh => by rw [hol_s hc, decide_eq_false c] at hh; exact absurd hh (by decide))
theorem e_fi1 {N n : Nat} (hN : 300 ≤ N) {wk tf : Nat → Nat} {dy LN : Nat → Int32} {fd : Nat → Nat} {x2 : Int32} {pr : Nat → Nat} {D D' : Nat → Bool} {ch : Nat → Option Nat} {us : Nat → Nat} {w0 i : Nat} (hV : Vst n wk tf (okB wk dy LN fd x2) pr D ch us) (hD : ∀ w, w < 200 → (D' w = true ↔ (D w = true ∨ w = w0))) (K : Int32 → Int32 → Int32 → v_M → Option (Int32 × v_M)) (ho : ∀ (z : Nat) (Q ps : Nat → Nat) (T : Nat → Bool) (M : v_M), InR n wk tf dy LN fd x2 ch us w0 z Q ps T M → i < z → (∀ p, p < i + 1 → ∀ s, s < n → wk s = Q p → okB wk dy LN fd x2 s = true → T (tf s) = true) → ∃ (r : Int32) (M' : v_M), K x2 (nI z) (nI (i + 1)) M = some (r, M') ∧ v_fr [127, 133, 136, 137, 138, 139] [] M M' ∧ OuR n wk tf (okB wk dy LN fd x2) pr D' r M') : ∀ (b m f z : Nat) (Q ps : Nat → Nat) (T : Nat → Bool) (M : v_M), m + b = n → b < f → InR n wk tf dy LN fd x2 ch us w0 z Q ps T M → i < z → (∀ p, p < i → ∀ s, s < n → wk s = Q p → okB wk dy LN fd x2 s = true → T (tf s) = true) → (∀ s, s < m → wk s = Q i → okB wk dy LN fd x2 s = true → T (tf s) = true) → ∃ (r : Int32) (M' : v_M), f_X12_finds_L51 N K f x2 (nI z) (nI i) (nI m) M = some (r, M') ∧ v_fr [127, 133, 136, 137, 138, 139] [] M M' ∧ OuR n wk tf (okB wk dy LN fd x2) pr D' r M' := by
  have hcv : chv n wk ch := fun w s hw e => ⟨(hV.2.1 w s hw e).1, (hV.2.1 w s hw e).2.1⟩
  intro b
  induction b with
  | zero =>
    intro m f z Q ps T M hb hf hI hi hsc hsi
    obtain ⟨f, rfl⟩ : ∃ q, f = q + 1 := ⟨f - 1, by omega⟩
    obtain ⟨⟨hS, -⟩, -⟩ := id hI
    have h200 := hS.1.1
    obtain ⟨r, M', g1, g2, g3⟩ := ho z Q ps T M hI hi (fun p hp s hs h1 h2 => by
      by_cases y : p = i
      · rw [y] at h1
        exact hsi s (by omega) h1 h2
      · exact hsc p (by omega) s hs h1 h2)
    refine ⟨r, M', ?_, g2, g3⟩
    rw [f_X12_finds_L51, hS.1.2, if_pos (nI_le (by omega) (by omega)), nI_1]
    exact g1
  | succ b ih =>
    intro m f z Q ps T M hb hf hI hi hsc hsi
    obtain ⟨f, rfl⟩ : ∃ q, f = q + 1 := ⟨f - 1, by omega⟩
    obtain ⟨⟨hS, h136, h127⟩, h139, h133, hq, hw, hF, hH⟩ := id hI
    have h200 := hS.1.1
    have zl := hq.le
    have mn : m < n := by omega
    obtain ⟨⟨a1, a2⟩, ⟨a3, a4⟩, -⟩ := hS.2.1 m mn
    have Ql := hq.2.1 i hi
    rw [f_X12_finds_L51, hS.1.2, if_neg (nI_ge mn (by omega))]
    simp only [v_ibN (show m < 200 by omega) (show 200 < 2 ^ 31 by omega), nI_clamp (show m < 2 ^ 31 by omega), v_ibN (show i < 200 by omega) (show 200 < 2 ^ 31 by omega), nI_clamp (show i < 2 ^ 31 by omega), v_ckT, v_letE, a3, h139 i hi, e_fits N hS x2 mn Ql, Option.bind_some, v01_0, v_ibN (show tf m < 200 by omega) (show 200 < 2 ^ 31 by omega), nI_clamp (show tf m < 2 ^ 31 by omega), h133 (tf m) a4, f_X12_finds_L233, nI_1]
    have skip : (wk m = Q i → okB wk dy LN fd x2 m = true → T (tf m) = true) → ∃ (r : Int32) (M' : v_M), f_X12_finds_L51 N K f x2 (nI z) (nI i) (nI (m + 1)) M = some (r, M') ∧ v_fr [127, 133, 136, 137, 138, 139] [] M M' ∧ OuR n wk tf (okB wk dy LN fd x2) pr D' r M' := fun hk => ih (m + 1) f z Q ps T M (by omega) (by omega) hI hi hsc (fun s h1 h2 h3 => by
      by_cases y : s = m
      · rw [y] at h2 h3 ⊢; exact hk h2 h3
      · exact hsi s (by omega) h2 h3)
    cases c1 : (okB wk dy LN fd x2 m && decide (wk m = Q i)) with
    | false =>
      rw [if_neg (by decide)]
      exact skip (fun h1 h2 => by rw [h2, decide_eq_true h1] at c1; exact absurd c1 (by decide))
    | true =>
      rw [if_pos rfl]
      simp only [Bool.and_eq_true, decide_eq_true_eq] at c1
      obtain ⟨oks, l2⟩ := c1
      by_cases c2 : T (tf m) = true
      · rw [if_pos c2]
        exact skip (fun _ _ => c2)
      rw [if_neg c2, show vp_nar .boolean (1 : Int32) = 1 from rfl]
      have fr : v_fr [127, 133, 136, 137, 138, 139] [] M (v_wr M 133 (tf m) 1) := v_frw (by decide) v_frR
      have nT : ∀ t, T t = true → t ≠ tf m := fun t ht y => c2 (by rw [← y]; exact ht)
      have u2 := (hV.2.2 (tf m) a4).2
      rw [v_rdn (show (127 : Nat) ≠ 133 by decide), h127 (tf m) a4]
      by_cases c4 : us (tf m) = 2
      · rw [c4, if_pos (show (2 : Int32) ≤ nI 2 by decide)]
        have hS3 := hS.keep fr (by decide) (by decide)
        have hqT := hq.T (T' := orT T (tf m)) (fun t ht => orT_m _ ht)
        have hz0 : ∀ w, w < 0 → hol tf ch (tf m) w = true → ∃ p, p < z ∧ Q p = w := fun w h => by omega
        obtain ⟨M', z', Q', ps', g1, g2, g3, g4, g5, g6, g7, g8⟩ := e_fq hN (T := orT T (tf m)) (t := tf m) (v := m) (i := i) K (f_X12_finds_L51 N K f) x2 (orT_s _ _) ⟨rfl, mn, oks⟩ hcv 200 0 N z Q ps (v_wr M 133 (tf m) 1) (by omega) (by omega) hS3 hqT ⟨fun p a b => by rw [v_rdn (by decide), v_rdn (by decide)]; exact hw.1 p a b, by rw [v_rdn (by decide)]; exact hw.2⟩ hi l2.symm (fun w hw' => by rw [v_rdn (by decide)]; exact h136 w hw') (fun p hp => by rw [v_rdn (by decide)]; exact h139 p hp) hz0
        rw [show (0 : Int32) = nI 0 from rfl, g1]
        have fr2 : v_fr [127, 133, 136, 137, 138, 139] [] M M' := v_frt (by decide) (by decide) fr g2
        have hI' : InR n wk tf dy LN fd x2 ch us w0 z' Q' ps' (orT T (tf m)) M' := by
          refine ⟨⟨hS.keep fr2 (by decide) (by decide), fun w hw' => by rw [v_keepR g2 136 (by decide), v_rdn (by decide)]; exact h136 w hw', fun t ht => by rw [v_keepR g2 127 (by decide), v_rdn (by decide)]; exact h127 t ht⟩, g7, fun t ht => ?_, g3, g4, fun t ht hT => ?_, fun t ht hT w hw' hh => ?_⟩
          · rw [v_keepR g2 133 (by decide), v_rd]
            by_cases y : t = tf m
            · rw [if_pos ⟨rfl, y⟩, y, orT_s]; rfl
            · rw [if_neg (fun q => y q.2), orT_n _ y]; exact h133 t ht
          · by_cases y : t = tf m
            · rw [y]; exact c4
            · rw [orT_n _ y] at hT
              exact hF t ht hT
          · by_cases y : t = tf m
            · rw [y] at hh
              exact g8 w hw' hh
            · rw [orT_n _ y] at hT
              obtain ⟨p, hp, hp'⟩ := hH t ht hT w hw' hh
              exact ⟨p, by omega, by rw [g6 p hp]; exact hp'⟩
        have Qi : Q' i = Q i := g6 i hi
        obtain ⟨r, M'', k1, k2, k3⟩ := ih (m + 1) f z' Q' ps' (orT T (tf m)) M' (by omega) (by omega) hI' (by omega) (fun p hp s1 h1 h2 h3 => by
          rw [g6 p (by omega)] at h2
          exact orT_m _ (hsc p hp s1 h1 h2 h3)) (fun s1 h1 h3 h4 => by
          rw [Qi] at h3
          by_cases y : s1 = m
          · rw [y]; exact orT_s _ _
          · exact orT_m _ (hsi s1 (by omega) h3 h4))
        exact ⟨r, M'', k1, v_frT fr2 k2, k3⟩
      · rw [if_neg (show ¬ (2 : Int32) ≤ nI (us (tf m)) from nI_ge (b := 2) (by omega) (by omega))]
        simp only [v_rdn, ne_eq, Nat.reduceEqDiff, not_false_eq_true, h139 i hi, nI_1]
        have fr2 : v_fr [127, 133, 136, 137, 138, 139] [] M (v_wr (v_wr M 133 (tf m) 1) 127 (tf m) (nI (us (tf m) + 1))) := v_frw (by decide) fr
        obtain ⟨M', c, m1, m2, m3, m4⟩ := e_gives (N := N) hq h200 (i + 1) i N (v_wr (v_wr M 133 (tf m) 1) 127 (tf m) (nI (us (tf m) + 1))) ch m (by omega) hi l2.symm mn oks (fun p a b => by rw [v_rdn (by decide), v_rdn (by decide), v_rdn (by decide), v_rdn (by decide)]; exact hw.1 p a b) (by rw [v_rdn (by decide), v_rdn (by decide)]; exact hw.2) (fun p _ => rfl) (fun w hw' => by rw [v_rdn (by decide), v_rdn (by decide)]; exact h136 w hw') (by omega)
        unfold f_X12_gives
        rw [m1, Option.bind_some]
        refine ⟨1, M', rfl, v_frt (by decide) (by decide) fr2 m2, Or.inl ⟨rfl, c, _, hV.ag m4 (by omega) hD, m3, fun t ht => ?_⟩⟩
        rw [v_keepR m2 127 (by decide), v_rd]
        by_cases y : t = tf m
        · rw [if_pos ⟨rfl, y⟩, y, upn_s]
        · rw [if_neg (fun q => y q.2), upn_n _ y, v_rdn (by decide)]
          exact h127 t ht
