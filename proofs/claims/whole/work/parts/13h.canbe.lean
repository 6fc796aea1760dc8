/-! the reference: finds, canBe -/
theorem e_fi2 {N n : Nat} (hN : 300 ≤ N) {wk tf : Nat → Nat} {dy LN : Nat → Int32} {fd : Nat → Nat} {x2 : Int32} {pr : Nat → Nat} {D D' : Nat → Bool} {ch : Nat → Option Nat} {us : Nat → Nat} {w0 : Nat} (hV : Vst n wk tf (okB wk dy LN fd x2) pr D ch us) (hD : ∀ w, w < 200 → (D' w = true ↔ (D w = true ∨ w = w0))) : ∀ (s i f z : Nat) (Q ps : Nat → Nat) (T : Nat → Bool) (M : v_M), i + s = 200 → s < f → i ≤ z → InR n wk tf dy LN fd x2 ch us w0 z Q ps T M → (∀ p, p < i → ∀ s, s < n → wk s = Q p → okB wk dy LN fd x2 s = true → T (tf s) = true) → ∃ (r : Int32) (M' : v_M), f_X12_finds_L42 N f x2 (nI z) (nI i) M = some (r, M') ∧ v_fr [127, 133, 136, 137, 138, 139] [] M M' ∧ OuR n wk tf (okB wk dy LN fd x2) pr D' r M' := by
  intro s
  have fin : ∀ (i f z : Nat) (Q ps : Nat → Nat) (T : Nat → Bool) (M : v_M), z ≤ i → i ≤ z → InR n wk tf dy LN fd x2 ch us w0 z Q ps T M → (∀ p, p < i → ∀ s, s < n → wk s = Q p → okB wk dy LN fd x2 s = true → T (tf s) = true) → ∃ (r : Int32) (M' : v_M), f_X12_finds_L42 N (f + 1) x2 (nI z) (nI i) M = some (r, M') ∧ v_fr [127, 133, 136, 137, 138, 139] [] M M' ∧ OuR n wk tf (okB wk dy LN fd x2) pr D' r M' := fun i f z Q ps T M h1 h2 hI hsc => by
    obtain ⟨⟨hS, -⟩, -, -, hq, -, hF, hH⟩ := hI
    have zl := hq.le
    refine ⟨0, M, ?_, v_frR, Or.inr ⟨rfl, ?_⟩⟩
    · rw [f_X12_finds_L42, if_pos (nI_le h1 (by omega))]
      rfl
    · exact hq.fail hV (fun s hs => (hS.2.1 s hs).2.1.2) hF hH (fun p hp => hsc p (by omega)) D' (fun w hw h => (hD w hw).mpr h)
  induction s with
  | zero =>
    intro i f z Q ps T M hi hf hz hI hsc
    obtain ⟨f, rfl⟩ : ∃ q, f = q + 1 := ⟨f - 1, by omega⟩
    have zl := hI.2.2.2.1.le
    exact fin i f z Q ps T M (by omega) hz hI hsc
  | succ s ih =>
    intro i f z Q ps T M hi hf hz hI hsc
    obtain ⟨f, rfl⟩ : ∃ q, f = q + 1 := ⟨f - 1, by omega⟩
    by_cases c : z ≤ i
    · exact fin i f z Q ps T M c hz hI hsc
    · obtain ⟨⟨hS, -⟩, -, -, hq, -⟩ := id hI
      have zl := hq.le
      have h200 := hS.1.1
      rw [f_X12_finds_L42, if_neg (nI_ge (by omega) (by omega))]
      exact e_fi1 hN hV hD (f_X12_finds_L42 N f) (fun z' Q' ps' T' M' hI' hz' hsc' => ih (i + 1) f z' Q' ps' T' M' (by omega) (by omega) (by omega) hI' hsc') n 0 N z Q ps T M (by omega) (by omega) hI (by omega) hsc (fun s h1 => by omega)
theorem e_gone (N : Nat) {n : Nat} (hn : n ≤ 200) {w0 : Nat} (hw : w0 < 200) (x2 : Int32) : ∀ (s k f : Nat) (M : v_M), k + s = n → s < f → M.1 79 60 = nI n → (∀ t, t < k → M.1 133 t = 0) → ∃ M' : v_M, f_X12_finds_L2 N f (nI w0) x2 (nI k) M = f_X12_finds_L42 N N x2 1 0 (v_wr (v_wr M' 139 0 (nI w0)) 137 w0 (-1)) ∧ v_fr [133] [] M M' ∧ ∀ t, t < n → M'.1 133 t = 0 := by
  intro s
  induction s with
  | zero =>
    intro k f M hk hf e h
    obtain ⟨f, rfl⟩ : ∃ q, f = q + 1 := ⟨f - 1, by omega⟩
    refine ⟨M, ?_, v_frR, fun t ht => h t (by omega)⟩
    rw [f_X12_finds_L2, e, if_pos (nI_le (by omega) (by omega)), show v_ib (0 : Int32) 200 = true from rfl, v_ckT, v_letE, show (0 : Int32).toNatClampNeg = 0 from rfl, v_ibN hw (show 200 < 2 ^ 31 by omega), v_ckT, v_letE, nI_clamp (show w0 < 2 ^ 31 by omega)]
  | succ s ih =>
    intro k f M hk hf e h
    obtain ⟨f, rfl⟩ : ∃ q, f = q + 1 := ⟨f - 1, by omega⟩
    rw [f_X12_finds_L2, e, if_neg (nI_ge (show k < n by omega) (by omega)), v_ibN (show k < 200 by omega) (show 200 < 2 ^ 31 by omega), v_ckT, v_letE, nI_clamp (show k < 2 ^ 31 by omega), nI_1, show vp_nar .boolean (0 : Int32) = 0 from rfl]
    have fr : v_fr [133] [] M (v_wr M 133 k 0) := v_frw (by decide) v_frR
    obtain ⟨M', g1, g2, g3⟩ := ih (k + 1) f (v_wr M 133 k 0) (by omega) (by omega) (by rw [v_rdn (by decide), e]) (fun t ht => by
      rw [v_rd]
      by_cases y : t = k
      · rw [if_pos ⟨rfl, y⟩]
      · rw [if_neg (fun q => y q.2)]; exact h t (by omega))
    exact ⟨M', g1, v_frT fr g2, g3⟩
theorem e_finds {N n : Nat} (hN : 300 ≤ N) {wk tf : Nat → Nat} {dy LN : Nat → Int32} {fd : Nat → Nat} {x2 : Int32} {pr : Nat → Nat} {D D' : Nat → Bool} {ch : Nat → Option Nat} {us : Nat → Nat} {w0 : Nat} (hV : Vst n wk tf (okB wk dy LN fd x2) pr D ch us) (hD : ∀ w, w < 200 → (D' w = true ↔ (D w = true ∨ w = w0))) (hw : w0 < 200) (hn : ch w0 = none) {M : v_M} (hS : SR M n wk tf dy LN fd) (h136 : q136 M ch) (h127 : q127 M n us) : ∃ (r : Int32) (M' : v_M), f_X12_finds N (nI w0) x2 M = some (r, M') ∧ v_fr [127, 133, 136, 137, 138, 139] [] M M' ∧ OuR n wk tf (okB wk dy LN fd x2) pr D' r M' := by
  have h200 := hS.1.1
  obtain ⟨A, a1, a2, a3⟩ := e_gone N h200 hw x2 n 0 N M (by omega) (by omega) hS.1.2 (fun t ht => by omega)
  have fr : v_fr [127, 133, 136, 137, 138, 139] [] M (v_wr (v_wr A 139 0 (nI w0)) 137 w0 (-1)) := v_frw (by decide) (v_frw (by decide) (v_frt (by decide) (by decide) v_frR a2))
  have hI : InR n wk tf dy LN fd x2 ch us w0 1 (fun _ => w0) (fun _ => 0) (fun _ => false) (v_wr (v_wr A 139 0 (nI w0)) 137 w0 (-1)) := by
    refine ⟨⟨hS.keep fr (by decide) (by decide), fun w hw => by rw [v_rdn (by decide), v_rdn (by decide), v_keepR a2 136 (by decide)]; exact h136 w hw, fun t ht => by rw [v_rdn (by decide), v_rdn (by decide), v_keepR a2 127 (by decide)]; exact h127 t ht⟩, fun p hp => ?_, fun t ht => ?_, ⟨⟨rfl, hn, by omega⟩, fun _ _ => hw, fun p p' hp hp' _ => by omega, fun p a b => by omega⟩, ⟨fun p a b => by omega, by rw [v_rd, if_pos ⟨rfl, rfl⟩]⟩, fun t _ h => absurd h Bool.false_ne_true, fun t _ h => absurd h Bool.false_ne_true⟩
    · rw [show p = 0 by omega, v_rdn (by decide), v_rd, if_pos ⟨rfl, rfl⟩]
    · rw [v_rdn (by decide), v_rdn (by decide), a3 t ht]
      rfl
  obtain ⟨r, M', g1, g2, g3⟩ := e_fi2 hN hV hD 200 0 N 1 (fun _ => w0) (fun _ => 0) (fun _ => false) _ (by omega) (by omega) (by omega) hI (fun p hp => by omega)
  refine ⟨r, M', ?_, v_frT fr g2, g3⟩
  unfold f_X12_finds
  rw [show (0 : Int32) = nI 0 from rfl, a1]
  exact g1
theorem e_cr1 {N n : Nat} (hN : 300 ≤ N) {wk tf : Nat → Nat} {dy LN : Nat → Int32} {fd : Nat → Nat} {x2 met : Int32} {pr : Nat → Nat} : ∀ (s w f : Nat) (ch : Nat → Option Nat) (us : Nat → Nat) (M : v_M), w + s = 200 → s + 1 < f → Vst n wk tf (okB wk dy LN fd x2) pr (ndW fd met w) ch us → SR M n wk tf dy LN fd → q136 M ch → q127 M n us → ∃ (b : Bool) (M' : v_M), f_X12_canBe_L94 N f x2 met 1 (nI w) M = some (v01 b, M') ∧ v_fr [127, 133, 136, 137, 138, 139] [] M M' ∧ (b = true ↔ Sat n wk tf (okB wk dy LN fd x2) pr (ndD fd met)) := by
  intro s
  induction s with
  | zero =>
    intro w f ch us M hw hf hV hS h136 h127
    obtain ⟨f, rfl⟩ : ∃ q, f = q + 1 := ⟨f - 1, by omega⟩
    refine ⟨true, M, ?_, v_frR, fun _ => ?_, fun _ => rfl⟩
    · rw [f_X12_canBe_L94, if_pos (show (200 : Int32) ≤ nI w from nI_le (a := 200) (by omega) (by omega))]
      rfl
    · refine hV.sat.mono (fun w' hw' h => ?_)
      unfold ndW
      rw [h, decide_eq_true (by omega)]
      rfl
  | succ s ih =>
    intro w f ch us M hw hf hV hS h136 h127
    obtain ⟨f, rfl⟩ : ∃ q, f = q + 1 := ⟨f - 1, by omega⟩
    obtain ⟨f1, f2⟩ := hS.2.2 w (by omega)
    rw [f_X12_canBe_L94, if_neg (show ¬ (200 : Int32) ≤ nI w from nI_ge (b := 200) (by omega) (by omega)), if_neg (show ¬ (1 : Int32) = 0 by decide)]
    simp only [v_ibN (show w < 200 by omega) (show 200 < 2 ^ 31 by omega), nI_clamp (show w < 2 ^ 31 by omega), v_ckT, f1, f_X12_canBe_L134, f_X12_canBe_L139, nI_1]
    by_cases c1 : fd w = 10000
    · rw [if_pos ((enc_m1 f2).mpr c1)]
      exact ih (w + 1) f ch us M (by omega) (by omega) (hV.D (fun w' => ndW_n (by unfold ndD; rw [decide_eq_true c1, Bool.not_true, Bool.false_and]; decide))) hS h136 h127
    rw [if_neg (fun z => c1 ((enc_m1 f2).mp z))]
    by_cases c2 : nI w = met
    · rw [if_pos c2]
      exact ih (w + 1) f ch us M (by omega) (by omega) (hV.D (fun w' => ndW_n (by unfold ndD; rw [decide_eq_true c2, Bool.not_true, Bool.and_false]; decide))) hS h136 h127
    rw [if_neg c2]
    have nd : ndD fd met w = true := by unfold ndD; rw [decide_eq_false c1, decide_eq_false c2]; rfl
    have cw : ch w = none := by
      cases e : ch w with
      | none => rfl
      | some v =>
        have := (hV.1 w (by omega)).mpr (by rw [e]; exact fun z => nomatch z)
        unfold ndW at this
        rw [decide_eq_false (by omega), Bool.false_and] at this
        exact absurd this (by decide)
    obtain ⟨r, A, g1, g2, g3⟩ := e_finds hN hV (D' := ndW fd met (w + 1)) (fun w' _ => ndW_s nd) (by omega) cw hS h136 h127
    rw [g1, Option.bind_some]
    rcases g3 with ⟨e, c, us', k1, k2, k3⟩ | ⟨e, k⟩
    · rw [e, if_neg (show ¬ (1 : Int32) = 0 by decide)]
      obtain ⟨b, M', m1, m2, m3⟩ := ih (w + 1) f c us' A (by omega) (by omega) k1 (hS.keep g2 (by decide) (by decide)) k2 k3
      exact ⟨b, M', m1, v_frT g2 m2, m3⟩
    · rw [e, if_pos (show (0 : Int32) = 0 from rfl)]
      refine ⟨false, A, ?_, g2, fun z => absurd z (by decide), fun z => absurd (z.mono (fun w' hw' h => ?_)) k⟩
      · obtain ⟨f, rfl⟩ : ∃ q, f = q + 1 := ⟨f - 1, by omega⟩
        rw [f_X12_canBe_L94]
        simp only [v_b0, v_ckT, if_true]
        split <;> rfl
      · unfold ndW at h
        simp only [Bool.and_eq_true] at h
        exact h.2
theorem e_ch136 (N : Nat) (x1 x2 : Int32) : ∀ (s k f : Nat) (M : v_M), k + s = 200 → s < f → (∀ w, w < k → M.1 136 w = -1) → ∃ M' : v_M, f_X12_canBe_L25 N f x1 x2 (nI k) M = f_X12_canBe_L25 N 1 x1 x2 (nI 200) M' ∧ v_fr [136] [] M M' ∧ ∀ w, w < 200 → M'.1 136 w = -1 := by
  intro s
  induction s with
  | zero =>
    intro k f M hk hf h
    obtain ⟨f, rfl⟩ : ∃ q, f = q + 1 := ⟨f - 1, by omega⟩
    refine ⟨M, ?_, v_frR, fun w hw => h w (by omega)⟩
    rw [f_X12_canBe_L25, f_X12_canBe_L25, if_pos (show (200 : Int32) ≤ nI k from nI_le (a := 200) (by omega) (by omega)), if_pos (show (200 : Int32) ≤ nI 200 by decide)]
  | succ s ih =>
    intro k f M hk hf h
    obtain ⟨f, rfl⟩ : ∃ q, f = q + 1 := ⟨f - 1, by omega⟩
    have fr : v_fr [136] [] M (v_wr M 136 k (-1)) := v_frw (by decide) v_frR
    obtain ⟨M', g1, g2, g3⟩ := ih (k + 1) f (v_wr M 136 k (-1)) (by omega) (by omega) (fun w hw => by
      rw [v_rd]
      by_cases y : w = k
      · rw [if_pos ⟨rfl, y⟩]
      · rw [if_neg (fun q => y q.2)]; exact h w (by omega))
    refine ⟨M', ?_, v_frT fr g2, g3⟩
    rw [← g1]
    rw [f_X12_canBe_L25, if_neg (show ¬ (200 : Int32) ≤ nI k from nI_ge (b := 200) (by omega) (by omega)), v_ibN (show k < 200 by omega) (show 200 < 2 ^ 31 by omega), v_ckT, v_letE, nI_clamp (show k < 2 ^ 31 by omega), nI_1]
theorem e_us127 (N : Nat) {n : Nat} (hn : n ≤ 200) (x1 x2 : Int32) : ∀ (s k f : Nat) (M : v_M), k + s = n → s < f → M.1 79 60 = nI n → (∀ t, t < k → M.1 127 t = 0) → ∃ M' : v_M, f_X12_canBe_L2 N f x1 x2 (nI k) M = f_X12_canBe_L25 N N x1 x2 (nI 0) M' ∧ v_fr [127] [] M M' ∧ ∀ t, t < n → M'.1 127 t = 0 := by
  intro s
  induction s with
  | zero =>
    intro k f M hk hf e h
    obtain ⟨f, rfl⟩ : ∃ q, f = q + 1 := ⟨f - 1, by omega⟩
    refine ⟨M, ?_, v_frR, fun w hw => h w (by omega)⟩
    rw [f_X12_canBe_L2, e, if_pos (nI_le (by omega) (by omega))]
    rfl
  | succ s ih =>
    intro k f M hk hf e h
    obtain ⟨f, rfl⟩ : ∃ q, f = q + 1 := ⟨f - 1, by omega⟩
    have fr : v_fr [127] [] M (v_wr M 127 k 0) := v_frw (by decide) v_frR
    obtain ⟨M', g1, g2, g3⟩ := ih (k + 1) f (v_wr M 127 k 0) (by omega) (by omega) (by rw [v_rdn (by decide), e]) (fun w hw => by
      rw [v_rd]
      by_cases y : w = k
      · rw [if_pos ⟨rfl, y⟩]
      · rw [if_neg (fun q => y q.2)]; exact h w (by omega))
    refine ⟨M', ?_, v_frT fr g2, g3⟩
    rw [← g1]
    rw [f_X12_canBe_L2, e, if_neg (nI_ge (show k < n by omega) (by omega)), v_ibN (show k < 200 by omega) (show 200 < 2 ^ 31 by omega), v_ckT, v_letE, nI_clamp (show k < 2 ^ 31 by omega), nI_1]
theorem e_canR {N n : Nat} (hN : 300 ≤ N) {wk tf : Nat → Nat} {dy LN : Nat → Int32} {fd : Nat → Nat} (x2 : Int32) (o : Option Nat) (ho : ∀ s, o = some s → s < n) {M : v_M} (hS : SR M n wk tf dy LN fd) : ∃ (b : Bool) (M' : v_M), f_X12_canBe N x2 (ov6 o) M = some (v01 b, M') ∧ v_fr [127, 133, 136, 137, 138, 139] [] M M' ∧ (b = true ↔ CanB n wk tf dy LN fd x2 o) := by
  have h200 := hS.1.1
  obtain ⟨A, a1, a2, a3⟩ := e_us127 N h200 x2 (ov6 o) n 0 N M (by omega) (by omega) hS.1.2 (fun t ht => by omega)
  obtain ⟨C, c1, c2, c3⟩ := e_ch136 N x2 (ov6 o) 200 0 N A (by omega) (by omega) (fun t ht => by omega)
  have fC : v_fr [127, 133, 136, 137, 138, 139] [] M C := v_frt (by decide) (by decide) (v_frt (by decide) (by decide) v_frR a2) c2
  have hC := hS.keep fC (by decide) (by decide)
  have c127 : ∀ t, t < n → C.1 127 t = 0 := fun t ht => by rw [v_keepR c2 127 (by decide)]; exact a3 t ht
  have c136 : q136 C (fun _ => none) := fun w hw => c3 w hw
  unfold f_X12_canBe
  rw [show (0 : Int32) = nI 0 from rfl, a1, c1, f_X12_canBe_L25, if_pos (show (200 : Int32) ≤ nI 200 by decide)]
  unfold CanB
  cases o with
  | none =>
    rw [if_pos (show ov6 none = -1 from rfl)]
    obtain ⟨b, M', m1, m2, m3⟩ := e_cr1 hN (x2 := x2) (met := -1) (pr := prO tf none) 200 0 N (fun _ => none) (prO tf none) C (by omega) (by omega) (Vst.nil (fun t _ => Nat.zero_le _)) hC c136 c127
    exact ⟨b, M', m1, v_frT fC m2, m3⟩
  | some s =>
    have sn := ho s rfl
    obtain ⟨⟨d1, d2⟩, ⟨d3, d4⟩, -⟩ := hC.2.1 s sn
    rw [show ov6 (some s) = nI s from rfl, if_neg (nI_nm1 (by omega))]
    simp only [v_ibN (show s < 200 by omega) (show 200 < 2 ^ 31 by omega), nI_clamp (show s < 2 ^ 31 by omega), v_ckT, d3, v_ibN (show tf s < 200 by omega) (show 200 < 2 ^ 31 by omega), nI_clamp (show tf s < 2 ^ 31 by omega), v_letE]
    have fE : v_fr [127, 133, 136, 137, 138, 139] [] M (v_wr C 127 (tf s) 1) := v_frw (by decide) fC
    have hE := hS.keep fE (by decide) (by decide)
    rw [e_need N hE sn, Option.bind_some, e_fits N hE (-1) sn d2, Option.bind_some, v01_0]
    have okm : (okB wk dy LN fd (-1) s && decide (wk s = wk s)) = svB wk dy LN fd s := by
      unfold okB
      rw [decide_eq_true rfl, decide_eq_false (nI_nm1 (show s < 2 ^ 31 by omega)), Bool.not_false, Bool.and_true, Bool.and_true]
    rw [okm]
    simp only [e_need N hE sn, Option.bind_some]
    have go : ∀ met : Int32, ∃ (b : Bool) (M' : v_M), f_X12_canBe_L87 N x2 met (v_wr C 127 (tf s) 1) = some (v01 b, M') ∧ v_fr [127, 133, 136, 137, 138, 139] [] M M' ∧ (b = true ↔ Sat n wk tf (okB wk dy LN fd x2) (prO tf (some s)) (ndD fd met)) := fun met => by
      obtain ⟨b, M', m1, m2, m3⟩ := e_cr1 hN (x2 := x2) (met := met) (pr := prO tf (some s)) 200 0 N (fun _ => none) (prO tf (some s)) (v_wr C 127 (tf s) 1) (by omega) (by omega) (Vst.nil (fun t _ => by show (if t = tf s then 1 else 0) ≤ 2; split <;> omega)) hE (fun w hw => by rw [v_rdn (by decide)]; exact c136 w hw) (fun t ht => by
        rw [v_rd]
        show _ = nI (if t = tf s then 1 else 0)
        by_cases y : t = tf s
        · rw [if_pos ⟨rfl, y⟩, if_pos y]; rfl
        · rw [if_neg (fun q => y q.2), if_neg y]; exact c127 t ht)
      exact ⟨b, M', m1, v_frT fE m2, m3⟩
    unfold meO
    show ∃ b M', _ ∧ _ ∧ (b = true ↔ Sat n wk tf (okB wk dy LN fd x2) (prO tf (some s)) (ndD fd (if svB wk dy LN fd s = true then nI (wk s) else -1)))
    by_cases c : svB wk dy LN fd s = true
    · rw [if_pos c, if_pos c]
      exact go (nI (wk s))
    · rw [if_neg c, if_neg c]
      exact go (-1)
