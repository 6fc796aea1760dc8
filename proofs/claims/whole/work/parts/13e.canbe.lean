/-! the class: choose, canBe -/
theorem e_ch2 {N n : Nat} (hN : 300 ≤ N) {wk tf : Nat → Nat} {dy LN : Nat → Int32} {fd : Nat → Nat} {x2 : Int32} {pr : Nat → Nat} {D D' : Nat → Bool} {ch : Nat → Option Nat} {us : Nat → Nat} {w0 : Nat} (hV : Vst n wk tf (okB wk dy LN fd x2) pr D ch us) (hD : ∀ w, w < 200 → (D' w = true ↔ (D w = true ∨ w = w0))) : ∀ (s i f z : Nat) (Q ps rb : Nat → Nat) (T : Nat → Bool) (M : v_M), i + s = 200 → s < f → i ≤ z → InC n wk tf dy LN fd x2 ch us w0 z Q ps rb T M → (∀ p, p < i → ∀ s, s < n → wk s = Q p → okB wk dy LN fd x2 s = true → T (tf s) = true) → ∃ (r : Int32) (M' : v_M), f_X10_choose_L20 N f (nI z) (nI i) M = some (r, M') ∧ v_fr [67, 68, 69, 70] [] M M' ∧ OuC n wk tf (okB wk dy LN fd x2) pr D' r M' := by
  intro s
  have fin : ∀ (i f z : Nat) (Q ps rb : Nat → Nat) (T : Nat → Bool) (M : v_M), z ≤ i → i ≤ z → InC n wk tf dy LN fd x2 ch us w0 z Q ps rb T M → (∀ p, p < i → ∀ s, s < n → wk s = Q p → okB wk dy LN fd x2 s = true → T (tf s) = true) → ∃ (r : Int32) (M' : v_M), f_X10_choose_L20 N (f + 1) (nI z) (nI i) M = some (r, M') ∧ v_fr [67, 68, 69, 70] [] M M' ∧ OuC n wk tf (okB wk dy LN fd x2) pr D' r M' := fun i f z Q ps rb T M h1 h2 hI hsc => by
    obtain ⟨⟨hS, -⟩, -, -, hq, -, hF, hH⟩ := hI
    have zl := hq.le
    refine ⟨0, M, ?_, v_frR, Or.inr ⟨rfl, ?_⟩⟩
    · rw [f_X10_choose_L20, if_pos (nI_le h1 (by omega))]
      rfl
    · exact hq.fail hV (fun s hs => (hS.2.1 s hs).2.1.2) hF hH (fun p hp => hsc p (by omega)) D' (fun w hw h => (hD w hw).mpr h)
  induction s with
  | zero =>
    intro i f z Q ps rb T M hi hf hz hI hsc
    obtain ⟨f, rfl⟩ : ∃ q, f = q + 1 := ⟨f - 1, by omega⟩
    have zl := hI.2.2.2.1.le
    exact fin i f z Q ps rb T M (by omega) hz hI hsc
  | succ s ih =>
    intro i f z Q ps rb T M hi hf hz hI hsc
    obtain ⟨f, rfl⟩ : ∃ q, f = q + 1 := ⟨f - 1, by omega⟩
    by_cases c : z ≤ i
    · exact fin i f z Q ps rb T M c hz hI hsc
    · obtain ⟨⟨hS, -⟩, h68, -, hq, -⟩ := id hI
      have zl := hq.le
      have h200 := hS.1.1
      have Ql := hq.2.1 i (by omega)
      rw [f_X10_choose_L20, if_neg (nI_ge (by omega) (by omega)), if_neg (show ¬ (200 : Int32) ≤ nI i from nI_ge (b := 200) (by omega) (by omega)), v_ibN (show i < 200 by omega) (show 200 < 2 ^ 31 by omega), v_ckT, nI_clamp (show i < 2 ^ 31 by omega), h68 i (by omega), v_ibN Ql (show 200 < 2 ^ 31 by omega), v_ckT, nI_clamp (show Q i < 2 ^ 31 by omega), v_letE, (hS.2.2 (Q i) Ql).1]
      exact e_ch1 hN hV hD (f_X10_choose_L20 N f) (fun z' Q' ps' rb' T' M' hI' hz' hsc' => ih (i + 1) f z' Q' ps' rb' T' M' (by omega) (by omega) (by omega) hI' hsc') (n + 1) n N 0 z Q ps rb T M (by omega) (Nat.le_refl _) (by omega) (by omega) hI (by omega) hsc (fun s h1 h2 => by omega)
theorem e_choose {N n : Nat} (hN : 300 ≤ N) {wk tf : Nat → Nat} {dy LN : Nat → Int32} {fd : Nat → Nat} {x2 : Int32} {pr : Nat → Nat} {D D' : Nat → Bool} {ch : Nat → Option Nat} {us : Nat → Nat} {w0 : Nat} (hV : Vst n wk tf (okB wk dy LN fd x2) pr D ch us) (hD : ∀ w, w < 200 → (D' w = true ↔ (D w = true ∨ w = w0))) (hw : w0 < 200) (hn : ch w0 = none) {M : v_M} (hS : SC M n wk tf dy LN fd) (h64 : M.1 64 0 = x2) (h67 : r67 M ch) (h69 : r69 M n us) : ∃ (r : Int32) (M' : v_M), f_X10_choose N (nI w0) M = some (r, M') ∧ v_fr [67, 68, 69, 70] [] M M' ∧ OuC n wk tf (okB wk dy LN fd x2) pr D' r M' := by
  obtain ⟨A, a1, a2, a3⟩ := e_fillAll (N := N) 70 (-1) (show 200 < 2 ^ 31 by omega) (by omega) M
  have h200 := hS.1.1
  have fr : v_fr [67, 68, 69, 70] [] M (v_wr A 68 0 (nI w0)) := v_frw (by decide) (v_frt (by decide) (by decide) v_frR a2)
  have hI : InC n wk tf dy LN fd x2 ch us w0 1 (fun _ => w0) (fun _ => 0) (fun _ => 0) (fun _ => false) (v_wr A 68 0 (nI w0)) := by
    refine ⟨⟨hS.keep fr (by decide) (by decide), by rw [v_keepC fr 64 0 (by decide)]; exact h64, fun w hw => by rw [v_rdn (by decide), v_keepR a2 67 (by decide)]; exact h67 w hw, fun t ht => by rw [v_rdn (by decide), v_keepR a2 69 (by decide)]; exact h69 t ht⟩, fun p hp => ?_, fun t ht => ?_, ⟨⟨rfl, hn, by omega⟩, fun _ _ => hw, fun p p' hp hp' _ => by omega, fun p a b => by omega⟩, fun p a b => by omega, fun t _ h => absurd h Bool.false_ne_true, fun t _ h => absurd h Bool.false_ne_true⟩
    · rw [show p = 0 by omega, v_rd, if_pos ⟨rfl, rfl⟩]
    · rw [v_rdn (by decide), a3, if_pos (by omega), if_neg (show ¬ (fun _ => false : Nat → Bool) t = true from Bool.false_ne_true)]
      exact ⟨rfl, fun h => absurd h Bool.false_ne_true⟩
  obtain ⟨r, M', g1, g2, g3⟩ := e_ch2 hN hV hD 200 0 N 1 (fun _ => w0) (fun _ => 0) (fun _ => 0) (fun _ => false) _ (by omega) (by omega) (by omega) hI (fun p hp => by omega)
  refine ⟨r, M', ?_, v_frT fr g2, g3⟩
  unfold f_X10_choose
  rw [a1, Option.bind_some, show v_ib (0 : Int32) 200 = true from rfl, v_ckT, v_letE, show (0 : Int32).toNatClampNeg = 0 from rfl]
  exact g1
def ndD (fd : Nat → Nat) (met : Int32) (w : Nat) : Bool := !decide (fd w = 10000) && !decide (nI w = met)
def ndW (fd : Nat → Nat) (met : Int32) (k w : Nat) : Bool := decide (w < k) && ndD fd met w
theorem ndW_s {fd : Nat → Nat} {met : Int32} {k w : Nat} (h : ndD fd met k = true) : (ndW fd met (k + 1) w = true ↔ (ndW fd met k w = true ∨ w = k)) := by
  unfold ndW
  simp only [Bool.and_eq_true, decide_eq_true_eq]
  constructor
  · rintro ⟨a, b⟩
    by_cases y : w = k
    · exact Or.inr y
    · exact Or.inl ⟨by omega, b⟩
  · rintro (⟨a, b⟩ | y)
    · exact ⟨by omega, b⟩
    · rw [y]; exact ⟨by omega, h⟩
theorem ndW_n {fd : Nat → Nat} {met : Int32} {k w : Nat} (h : ¬ ndD fd met k = true) : ndW fd met (k + 1) w = ndW fd met k w := by
  unfold ndW
  by_cases y : w = k
  · rw [y, Bool.eq_false_iff.mpr h, Bool.and_false, Bool.and_false]
  · by_cases z : w < k
    · rw [decide_eq_true z, decide_eq_true (by omega)]
    · rw [decide_eq_false z, decide_eq_false (by omega)]
theorem Vst.D {n : Nat} {wk tf : Nat → Nat} {ok : Nat → Bool} {pr : Nat → Nat} {D D' : Nat → Bool} {ch : Nat → Option Nat} {us : Nat → Nat} (h : Vst n wk tf ok pr D ch us) (e : ∀ w, D' w = D w) : Vst n wk tf ok pr D' ch us := ⟨fun w hw => by rw [e w]; exact h.1 w hw, h.2⟩
theorem Vst.nil {n : Nat} {wk tf : Nat → Nat} {ok : Nat → Bool} {pr : Nat → Nat} {fd : Nat → Nat} {met : Int32} (hp : ∀ t, t < n → pr t ≤ 2) : Vst n wk tf ok pr (ndW fd met 0) (fun _ => none) pr := by
  refine ⟨fun w hw => ?_, fun w s hw e => (nomatch e), fun t ht => ?_⟩
  · unfold ndW
    rw [decide_eq_false (by omega), Bool.false_and]
    exact ⟨fun z => absurd z (by decide), fun z => absurd rfl z⟩
  · rw [cnt_0 (p := hol tf (fun _ => none) t) 200 (fun i _ => rfl)]
    exact ⟨rfl, hp t ht⟩
theorem e_cb1 {N n : Nat} (hN : 300 ≤ N) {wk tf : Nat → Nat} {dy LN : Nat → Int32} {fd : Nat → Nat} {x2 met : Int32} {pr : Nat → Nat} : ∀ (s w f : Nat) (ch : Nat → Option Nat) (us : Nat → Nat) (M : v_M), w + s = 200 → s < f → Vst n wk tf (okB wk dy LN fd x2) pr (ndW fd met w) ch us → SC M n wk tf dy LN fd → M.1 64 0 = x2 → r67 M ch → r69 M n us → ∃ (b : Bool) (M' : v_M), f_X10_canBe_L71 N f met (nI w) M = some (v01 b, M') ∧ v_fr [67, 68, 69, 70] [] M M' ∧ (b = true ↔ Sat n wk tf (okB wk dy LN fd x2) pr (ndD fd met)) := by
  intro s
  induction s with
  | zero =>
    intro w f ch us M hw hf hV hS h64 h67 h69
    obtain ⟨f, rfl⟩ : ∃ q, f = q + 1 := ⟨f - 1, by omega⟩
    refine ⟨true, M, ?_, v_frR, fun _ => ?_, fun _ => rfl⟩
    · rw [f_X10_canBe_L71, if_pos (show (200 : Int32) ≤ nI w from nI_le (a := 200) (by omega) (by omega))]
      rfl
    · refine hV.sat.mono (fun w' hw' h => ?_)
      unfold ndW
      rw [h, decide_eq_true (by omega)]
      rfl
  | succ s ih =>
    intro w f ch us M hw hf hV hS h64 h67 h69
    obtain ⟨f, rfl⟩ : ∃ q, f = q + 1 := ⟨f - 1, by omega⟩
    obtain ⟨-, -, f1, f2⟩ := hS.2.2 w (by omega)
    rw [f_X10_canBe_L71, if_neg (show ¬ (200 : Int32) ≤ nI w from nI_ge (b := 200) (by omega) (by omega))]
    simp only [v_ibN (show w < 200 by omega) (show 200 < 2 ^ 31 by omega), nI_clamp (show w < 2 ^ 31 by omega), v_ckT, f1, f_X10_canBe_L111, nI_1]
    by_cases c1 : fd w = 10000
    · rw [if_pos (show nI (fd w) = 10000 by rw [c1]; rfl)]
      exact ih (w + 1) f ch us M (by omega) (by omega) (hV.D (fun w' => ndW_n (by unfold ndD; rw [decide_eq_true c1, Bool.not_true, Bool.false_and]; decide))) hS h64 h67 h69
    rw [if_neg (show ¬ nI (fd w) = 10000 from fun z => c1 ((nI_eqX (b := 10000) (by omega) (by omega)).mp z))]
    by_cases c2 : nI w = met
    · rw [if_pos c2]
      exact ih (w + 1) f ch us M (by omega) (by omega) (hV.D (fun w' => ndW_n (by unfold ndD; rw [decide_eq_true c2, Bool.not_true, Bool.and_false]; decide))) hS h64 h67 h69
    rw [if_neg c2]
    have nd : ndD fd met w = true := by unfold ndD; rw [decide_eq_false c1, decide_eq_false c2]; rfl
    have cw : ch w = none := by
      cases e : ch w with
      | none => rfl
      | some v =>
        have := (hV.1 w (by omega)).mpr (by rw [e]; exact fun z => nomatch z)
        unfold ndW at this
        rw [decide_eq_false (by omega), Bool.false_and] at this
        exact absurd this (by decide)
    obtain ⟨r, A, g1, g2, g3⟩ := e_choose hN hV (D' := ndW fd met (w + 1)) (fun w' _ => ndW_s nd) (by omega) cw hS h64 h67 h69
    rw [g1, Option.bind_some]
    rcases g3 with ⟨e, c, us', k1, k2, k3⟩ | ⟨e, k⟩
    · rw [e, if_neg (show ¬ (1 : Int32) = 0 by decide)]
      obtain ⟨b, M', m1, m2, m3⟩ := ih (w + 1) f c us' A (by omega) (by omega) k1 (hS.keep g2 (by decide) (by decide)) (by rw [v_keepC g2 64 0 (by decide)]; exact h64) k2 k3
      exact ⟨b, M', m1, v_frT g2 m2, m3⟩
    · rw [e, if_pos (show (0 : Int32) = 0 from rfl)]
      refine ⟨false, A, rfl, g2, fun z => absurd z (by decide), fun z => absurd (z.mono (fun w' hw' h => ?_)) k⟩
      unfold ndW at h
      simp only [Bool.and_eq_true] at h
      exact h.2
def prO (tf : Nat → Nat) (o : Option Nat) (t : Nat) : Nat := match o with
  | none => 0
  | some s => if t = tf s then 1 else 0
def meO (wk : Nat → Nat) (dy LN : Nat → Int32) (fd : Nat → Nat) (o : Option Nat) : Int32 := match o with
  | none => -1
  | some s => if svB wk dy LN fd s = true then nI (wk s) else -1
def CanB (n : Nat) (wk tf : Nat → Nat) (dy LN : Nat → Int32) (fd : Nat → Nat) (x2 : Int32) (o : Option Nat) : Prop := Sat n wk tf (okB wk dy LN fd x2) (prO tf o) (ndD fd (meO wk dy LN fd o))
theorem e_canB {N n : Nat} (hN : 300 ≤ N) {wk tf : Nat → Nat} {dy LN : Nat → Int32} {fd : Nat → Nat} (x2 : Int32) (o : Option Nat) (ho : ∀ s, o = some s → s < n) {M : v_M} (hS : SC M n wk tf dy LN fd) : ∃ (b : Bool) (M' : v_M), f_X10_canBe N x2 (ov6 o) M = some (v01 b, M') ∧ v_fr [67, 68, 69, 70] [(64, 0)] M M' ∧ (b = true ↔ CanB n wk tf dy LN fd x2 o) := by
  have h200 := hS.1.1
  obtain ⟨A, a1, a2, a3⟩ := e_fillAll (N := N) 67 (-1) (show 200 < 2 ^ 31 by omega) (by omega) M
  obtain ⟨B, b1, b2, b3⟩ := e_fillAll (N := N) 69 0 (show 200 < 2 ^ 31 by omega) (by omega) A
  have fC : v_fr [67, 68, 69, 70] [(64, 0)] M (v_wr B 64 0 x2) := v_fro (by decide) (v_frt (by decide) (by decide) (v_frt (by decide) (by decide) v_frR a2) b2)
  have c64 : (v_wr B 64 0 x2).1 64 0 = x2 := by rw [v_rd, if_pos ⟨rfl, rfl⟩]
  have c67 : r67 (v_wr B 64 0 x2) (fun _ => none) := fun w hw => by rw [v_rdn (by decide), v_keepR b2 67 (by decide), a3, if_pos hw]; rfl
  have c69 : ∀ t, t < 200 → (v_wr B 64 0 x2).1 69 t = 0 := fun t ht => by rw [v_rdn (by decide), b3, if_pos ht]
  generalize hCC : v_wr B 64 0 x2 = C at fC c64 c67 c69
  have hC := hS.keep fC (by decide) (by decide)
  unfold f_X10_canBe
  rw [a1, Option.bind_some, b1, Option.bind_some, v_letE, hCC, e_within, Option.bind_some]
  unfold CanB
  cases o with
  | none =>
    rw [v_wiFe (show ¬ (0 ≤ ov6 none ∧ ov6 none ≤ 199) by decide)]
    obtain ⟨b, M', m1, m2, m3⟩ := e_cb1 hN (met := -1) (pr := prO tf none) 200 0 N (fun _ => none) (prO tf none) C (by omega) (by omega) (Vst.nil (fun t _ => Nat.zero_le _)) hC c64 c67 (fun t ht => c69 t (by omega))
    exact ⟨b, M', m1, v_frt (by decide) (by decide) fC m2, m3⟩
  | some s =>
    have sn := ho s rfl
    obtain ⟨⟨d1, d2⟩, ⟨d3, d4⟩, -⟩ := hC.2.1 s sn
    rw [show ov6 (some s) = nI s from rfl, v_wiTe (show (0 : Int32) ≤ nI s ∧ nI s ≤ 199 from ⟨nI_le (a := 0) (by omega) (by omega), nI_le (b := 199) (by omega) (by omega)⟩)]
    simp only [v_ibN (show s < 200 by omega) (show 200 < 2 ^ 31 by omega), nI_clamp (show s < 2 ^ 31 by omega), v_ckT, d3, v_ibN (show tf s < 200 by omega) (show 200 < 2 ^ 31 by omega), nI_clamp (show tf s < 2 ^ 31 by omega), v_letE]
    have fE : v_fr [67, 68, 69, 70] [(64, 0)] M (v_wr C 69 (tf s) 1) := v_frw (by decide) fC
    have hE := hS.keep fE (by decide) (by decide)
    rw [e_serves N hE sn, Option.bind_some, v01_0]
    have go : ∀ met : Int32, ∃ (b : Bool) (M' : v_M), f_X10_canBe_L66 N met (v_wr C 69 (tf s) 1) = some (v01 b, M') ∧ v_fr [67, 68, 69, 70] [(64, 0)] M M' ∧ (b = true ↔ Sat n wk tf (okB wk dy LN fd x2) (prO tf (some s)) (ndD fd met)) := fun met => by
      obtain ⟨b, M', m1, m2, m3⟩ := e_cb1 hN (x2 := x2) (met := met) (pr := prO tf (some s)) 200 0 N (fun _ => none) (prO tf (some s)) (v_wr C 69 (tf s) 1) (by omega) (by omega) (Vst.nil (fun t _ => by show (if t = tf s then 1 else 0) ≤ 2; split <;> omega)) hE (by rw [v_rdn (by decide)]; exact c64) (fun w hw => by rw [v_rdn (by decide)]; exact c67 w hw) (fun t ht => by
        rw [v_rd]
        show _ = nI (if t = tf s then 1 else 0)
        by_cases y : t = tf s
        · rw [if_pos ⟨rfl, y⟩, if_pos y]; rfl
        · rw [if_neg (fun q => y q.2), if_neg y]; exact c69 t (by omega))
      exact ⟨b, M', m1, v_frt (by decide) (by decide) fE m2, m3⟩
    unfold meO
    show ∃ b M', _ ∧ _ ∧ (b = true ↔ Sat n wk tf (okB wk dy LN fd x2) (prO tf (some s)) (ndD fd (if svB wk dy LN fd s = true then nI (wk s) else -1)))
    by_cases c : svB wk dy LN fd s = true
    · rw [if_pos c, if_pos c]
      have e53 : (v_wr C 69 (tf s) 1).1 53 s = nI (wk s) := by rw [v_rdn (by decide)]; exact d1
      simp only [e53]
      exact go (nI (wk s))
    · rw [if_neg c, if_neg c]
      exact go (-1)
