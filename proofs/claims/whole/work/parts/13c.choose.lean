/-! the class's choosing -/
theorem lst_so {f : Nat → Nat} {x : Nat} : ∀ m s : Nat, lst f x m = some s → s < m ∧ f s = x ∧ ∀ j, s < j → j < m → f j ≠ x := by
  intro m
  induction m with
  | zero => intro s h; exact nomatch h
  | succ m ih =>
    intro s h
    rw [lst] at h
    by_cases z : f m = x
    · rw [if_pos z] at h
      have := Option.some.inj h
      subst this
      exact ⟨by omega, z, fun j a b => by omega⟩
    · rw [if_neg z] at h
      obtain ⟨a, b, c⟩ := ih s h
      refine ⟨by omega, b, fun j p q => ?_⟩
      by_cases y : j = m
      · rw [y]; exact z
      · exact c j p (by omega)
theorem lst_no {f : Nat → Nat} {x : Nat} : ∀ m : Nat, lst f x m = none → ∀ j, j < m → f j ≠ x := by
  intro m
  induction m with
  | zero => intro _ j h; omega
  | succ m ih =>
    intro h j hj
    rw [lst] at h
    by_cases z : f m = x
    · rw [if_pos z] at h; exact nomatch h
    · rw [if_neg z] at h
      by_cases y : j = m
      · rw [y]; exact z
      · exact ih h j (by omega)
theorem ov6_lt (s : Nat) (h : s < 2 ^ 31) : ¬ ov6 (some s) < 0 := nI_pos h
theorem ov6_nlt : ov6 none < 0 := by decide
theorem ov6_ne {o : Option Nat} {s : Nat} (h : s < 2 ^ 31) (ho : ∀ v, o = some v → v < 2 ^ 31) : ov6 o = nI s ↔ o = some s := by
  cases o with
  | none => exact ⟨fun z => absurd z.symm (nI_nm1 h), fun z => nomatch z⟩
  | some v =>
    constructor
    · intro z
      have := (nI_eqX (ho v rfl) h).mp z
      rw [this]
    · intro z
      rw [z]
      rfl
def svB (wk : Nat → Nat) (dy LN : Nat → Int32) (fd : Nat → Nat) (s : Nat) : Bool := !decide (dy s ≤ LN (wk s)) && (!decide (fd (wk s) = 10000) && !decide (nI (fd (wk s)) < dy s))
def SC (M : v_M) (n : Nat) (wk tf : Nat → Nat) (dy LN : Nat → Int32) (fd : Nat → Nat) : Prop := (n ≤ 200 ∧ M.1 52 0 = nI n) ∧ (∀ s, s < n → (M.1 53 s = nI (wk s) ∧ wk s < 200) ∧ (M.1 56 s = nI (tf s) ∧ tf s < n) ∧ M.1 57 s = ov6 (lst wk (wk s) s) ∧ M.1 58 s = ov6 (lst tf (tf s) s) ∧ M.1 55 s = dy s ∧ M.1 60 (tf s) = ov6 (lst tf (tf s) n)) ∧ (∀ w, w < 200 → M.1 59 w = ov6 (lst wk w n) ∧ M.1 65 w = LN w ∧ M.1 66 w = nI (fd w) ∧ fd w ≤ 10000)
theorem SC.keep {W : List Nat} {O : List (Nat × Nat)} {M M' : v_M} {n : Nat} {wk tf : Nat → Nat} {dy LN : Nat → Int32} {fd : Nat → Nat} (hf : v_fr W O M M') (hk : ([53, 55, 56, 57, 58, 59, 60, 65, 66].all (fun k => !(W.contains k || O.any (fun q => q.1 == k)))) = true) (h1 : (W.contains 52 || O.contains (52, 0)) = false) (h : SC M n wk tf dy LN fd) : SC M' n wk tf dy LN fd := by
  have e : ∀ k ∈ [53, 55, 56, 57, 58, 59, 60, 65, 66], M'.1 k = M.1 k := fun k hm => v_keepR hf k (by have := List.all_eq_true.mp hk k hm; simpa using this)
  unfold SC at h ⊢
  rw [v_keepC hf 52 0 h1, e 53 (by decide), e 55 (by decide), e 56 (by decide), e 57 (by decide), e 58 (by decide), e 59 (by decide), e 60 (by decide), e 65 (by decide), e 66 (by decide)]
  exact h
theorem e_may (N : Nat) {M : v_M} {n : Nat} {wk tf : Nat → Nat} {dy LN : Nat → Int32} {fd : Nat → Nat} (h : SC M n wk tf dy LN fd) {s : Nat} (hs : s < n) : f_X10_mayBeTrue N (nI s) M = some (v01 (!decide (dy s ≤ LN (wk s))), M) := by
  obtain ⟨⟨h1, h2⟩, h3, h4⟩ := h
  obtain ⟨⟨a1, a2⟩, -, -, -, a3, -⟩ := h3 s hs
  obtain ⟨-, b1, -⟩ := h4 (wk s) a2
  unfold f_X10_mayBeTrue
  rw [e_within, Option.bind_some, v_wiTe (show (0 : Int32) ≤ nI s ∧ nI s ≤ 199 from ⟨nI_le (a := 0) (by omega) (by omega), nI_le (b := 199) (by omega) (by omega)⟩)]
  simp only [v_ibN (show s < 200 by omega) (show 200 < 2 ^ 31 by omega), nI_clamp (show s < 2 ^ 31 by omega), v_ckT, a1, v_ibN a2 (show 200 < 2 ^ 31 by omega), nI_clamp (show wk s < 2 ^ 31 by omega), a3, b1]
  by_cases z : dy s ≤ LN (wk s)
  · rw [if_pos z, decide_eq_true z]; rfl
  · rw [if_neg z, decide_eq_false z]; rfl
theorem e_serves (N : Nat) {M : v_M} {n : Nat} {wk tf : Nat → Nat} {dy LN : Nat → Int32} {fd : Nat → Nat} (h : SC M n wk tf dy LN fd) {s : Nat} (hs : s < n) : f_X10_serves N (nI s) M = some (v01 (svB wk dy LN fd s), M) := by
  have em := e_may N h hs
  obtain ⟨⟨h1, h2⟩, h3, h4⟩ := h
  obtain ⟨⟨a1, a2⟩, -, -, -, a3, -⟩ := h3 s hs
  obtain ⟨-, b1, b2, b3⟩ := h4 (wk s) a2
  unfold f_X10_serves svB
  rw [em, Option.bind_some]
  simp only [v01_0, v_ibN (show s < 200 by omega) (show 200 < 2 ^ 31 by omega), nI_clamp (show s < 2 ^ 31 by omega), v_ckT, v_letE, a1, v_ibN a2 (show 200 < 2 ^ 31 by omega), nI_clamp (show wk s < 2 ^ 31 by omega), a3, b2]
  cases hz : (!decide (dy s ≤ LN (wk s))) with
  | false => rfl
  | true =>
    rw [if_pos rfl, Bool.true_and]
    by_cases c1 : fd (wk s) = 10000
    · rw [if_pos (show nI (fd (wk s)) = 10000 by rw [c1]; rfl), decide_eq_true c1]; rfl
    · rw [if_neg (show ¬ nI (fd (wk s)) = 10000 from fun z => c1 ((nI_eqX (b := 10000) (by omega) (by omega)).mp z)), decide_eq_false c1]
      by_cases c2 : nI (fd (wk s)) < dy s
      · rw [if_pos c2, decide_eq_true c2]; rfl
      · rw [if_neg c2, decide_eq_false c2]; rfl
def r67 (M : v_M) (ch : Nat → Option Nat) : Prop := ∀ w, w < 200 → M.1 67 w = ov6 (ch w)
def r69 (M : v_M) (n : Nat) (us : Nat → Nat) : Prop := ∀ t, t < n → M.1 69 t = nI (us t)
def chv (n : Nat) (wk : Nat → Nat) (ch : Nat → Option Nat) : Prop := ∀ w s, w < 200 → ch w = some s → s < n ∧ wk s = w
/-- moving choices along -/
theorem e_move {N n : Nat} {wk tf : Nat → Nat} {dy LN : Nat → Int32} {fd : Nat → Nat} {ok : Nat → Bool} {ch : Nat → Option Nat} {w0 : Nat} {Q : Nat → Nat} {z : Nat} {ps rb : Nat → Nat} {T : Nat → Bool} (hq : BQ n wk tf ok ch w0 Q z ps T) (hrb : ∀ p, 0 < p → p < z → ps (Q p) = rb (tf ((ch (Q p)).getD 0))) (hcv : chv n wk ch) : ∀ (b p f x4 : Nat) (M : v_M) (ch1 : Nat → Option Nat) (v : Nat), p < b → p < z → Q p = wk v → v < n → ok v = true → SC M n wk tf dy LN fd → M.1 70 (tf v) = nI v → (∀ t, t < n → T t = true → M.1 70 t = nI (rb t)) → (∀ p', p' ≤ p → ch1 (Q p') = ch (Q p')) → r67 M ch1 → p + x4 < 200 → p < f → ∃ (M' : v_M) (c : Nat → Option Nat), f_X10_moveChoices_L15 N f (nI (tf v)) (nI x4) M = some (0, M') ∧ v_fr [67] [] M M' ∧ r67 M' c ∧ AgR n wk tf ok w0 ch1 v c := by
  intro b
  induction b with
  | zero => intro p f x4 M ch1 v h; omega
  | succ b ih =>
    intro p f x4 M ch1 v hb hz hQ hv hok hS h70 h70' hag h67 hx hf
    obtain ⟨f, rfl⟩ : ∃ q, f = q + 1 := ⟨f - 1, by omega⟩
    have h200 := hS.1.1
    obtain ⟨⟨a1, a2⟩, ⟨a3, a4⟩, -⟩ := hS.2.1 v hv
    have hk : wk v < 200 := a2
    have ek := hag p (Nat.le_refl _)
    rw [hQ] at ek
    have st : f_X10_moveChoices_L15 N (f + 1) (nI (tf v)) (nI x4) M = (if ov6 (ch (wk v)) = -1 then some (0, v_wr M 67 (wk v) (nI v)) else (v_ck (v_ib (ov6 (ch (wk v))) 200) <| v_let ((v_wr M 67 (wk v) (nI v)).1 56 (ov6 (ch (wk v))).toNatClampNeg) fun y5 => f_X10_moveChoices_L15 N f y5 (nI (x4 + 1)) (v_wr M 67 (wk v) (nI v)))) := by
      rw [f_X10_moveChoices_L15, if_neg (show ¬ (200 : Int32) ≤ nI x4 from nI_ge (b := 200) (by omega) (by omega)), v_ibN (show tf v < 200 by omega) (show 200 < 2 ^ 31 by omega), v_ckT, nI_clamp (show tf v < 2 ^ 31 by omega), h70, if_neg (nI_pos (by omega)), v_ckT]
      simp only [v_letE, v_ibN (show v < 200 by omega) (show 200 < 2 ^ 31 by omega), nI_clamp (show v < 2 ^ 31 by omega), v_ckT, a1, v_ibN hk (show 200 < 2 ^ 31 by omega), nI_clamp (show wk v < 2 ^ 31 by omega), h67 (wk v) hk, ek, nI_1]
    rw [st]
    have fr : v_fr [67] [] M (v_wr M 67 (wk v) (nI v)) := v_frw (by decide) v_frR
    have r67' : r67 (v_wr M 67 (wk v) (nI v)) (upo ch1 (wk v) v) := fun w hw => by
      rw [v_rd]
      by_cases y : w = wk v
      · rw [if_pos ⟨rfl, y⟩, y, upo_s]; rfl
      · rw [if_neg (fun q => y q.2), upo_n _ y]; exact h67 w hw
    by_cases p0 : p = 0
    · subst p0
      have kw : wk v = w0 := by rw [← hQ]; exact hq.1.1
      have cn : ch (wk v) = none := by rw [kw]; exact hq.1.2.1
      rw [cn, if_pos (show ov6 none = -1 from rfl)]
      refine ⟨_, upo ch1 (wk v) v, rfl, fr, r67', ?_⟩
      have := ag0 (n := n) (wk := wk) (tf := tf) (ok := ok) (w0 := wk v) (ch := ch1) (v := v) (by rw [ek, cn]) hk rfl hv hok
      rw [kw] at this ⊢
      exact this
    · obtain ⟨s', e1, e2, e3, e4, e5, p', e6, e7⟩ := hq.2.2.2 p (by omega) hz
      have ep := hrb p (by omega) hz
      rw [hQ] at e1 e3 e4 e5 e7 ep
      have s'n := (hcv (wk v) s' hk e1).1
      rw [e1, Option.getD_some] at ep
      rw [e1, show ov6 (some s') = nI s' from rfl, if_neg (nI_nm1 (show s' < 2 ^ 31 by omega)), v_ibN (show s' < 200 by omega) (show 200 < 2 ^ 31 by omega), v_ckT, nI_clamp (show s' < 2 ^ 31 by omega), v_letE, v_rdn (by decide), (hS.2.1 s' s'n).2.1.1, ← e3]
      have tn : tf s' < n := (hS.2.1 s' s'n).2.1.2
      have hQp : ∀ p'', p'' ≤ p' → Q p'' ≠ wk v := fun p'' hp y => by
        have := hq.2.2.1 p'' p (by omega) hz (by rw [y, hQ])
        omega
      obtain ⟨M', c, m1, m2, m3, m4⟩ := ih p' f (x4 + 1) (v_wr M 67 (wk v) (nI v)) (upo ch1 (wk v) v) (ps (wk v)) (by omega) (by omega) e7 e4 e5 (hS.keep fr (by decide) (by decide)) (by rw [v_rdn (by decide), e3, h70' (tf s') tn e2, ← ep]) (fun t ht hT => by rw [v_rdn (by decide)]; exact h70' t ht hT) (fun p'' hp => by rw [upo_n _ (hQp p'' hp)]; exact hag p'' (by omega)) r67' (by omega) (by omega)
      exact ⟨M', c, m1, v_frT fr m2, m3, ag1 hk (by rw [ek, e1]) rfl hv hok e3 m4⟩
/-- holders queued -/
theorem e_qh {N n : Nat} {wk tf : Nat → Nat} {dy LN : Nat → Int32} {fd : Nat → Nat} {ok : Nat → Bool} {ch : Nat → Option Nat} {w0 t v i : Nat} {rb : Nat → Nat} {T : Nat → Bool} (hT : T t = true) (hv : tf v = t ∧ v < n ∧ ok v = true) (hrt : rb t = v) (hcv : chv n wk ch) : ∀ (b m f x6 z : Nat) (Q ps : Nat → Nat) (M : v_M), m < b → m ≤ n → m < f → x6 + m ≤ 200 → SC M n wk tf dy LN fd → BQ n wk tf ok ch w0 Q z ps T → (∀ p, 0 < p → p < z → ps (Q p) = rb (tf ((ch (Q p)).getD 0))) → i < z → Q i = wk v → r67 M ch → (∀ p, p < z → M.1 68 p = nI (Q p)) → (∀ w s p, w < 200 → ch w = some s → tf s = t → p < z → Q p = w → m ≤ s) → (∀ w s, w < 200 → ch w = some s → tf s = t → m ≤ s → ∃ p, p < z ∧ Q p = w) → ∃ (M' : v_M) (z' : Nat) (Q' ps' : Nat → Nat), f_X10_queueHolders_L14 N f (nI z) (ov6 (lst tf t m)) (nI x6) M = some (nI z', M') ∧ v_fr [68] [] M M' ∧ BQ n wk tf ok ch w0 Q' z' ps' T ∧ (∀ p, 0 < p → p < z' → ps' (Q' p) = rb (tf ((ch (Q' p)).getD 0))) ∧ z ≤ z' ∧ (∀ p, p < z → Q' p = Q p) ∧ (∀ p, p < z' → M'.1 68 p = nI (Q' p)) ∧ ∀ w, w < 200 → hol tf ch t w = true → ∃ p, p < z' ∧ Q' p = w := by
  intro b
  induction b with
  | zero => intro m f x6 z Q ps M h; omega
  | succ b ih =>
    intro m f x6 z Q ps M hb hmn hf hx hS hq hrb hi hQi h67 h68 hpend hvis
    obtain ⟨f, rfl⟩ : ∃ q, f = q + 1 := ⟨f - 1, by omega⟩
    have h200 := hS.1.1
    have zl := hq.le
    cases hl : lst tf t m with
    | none =>
      refine ⟨M, z, Q, ps, ?_, v_frR, hq, hrb, Nat.le_refl _, fun p _ => rfl, h68, fun w hw hh => ?_⟩
      · rw [f_X10_queueHolders_L14, if_pos ov6_nlt]
        split <;> rfl
      · obtain ⟨s, e1, e2⟩ := hol_t hh
        refine hvis w s hw e1 e2 ?_
        by_cases y : s < m
        · exact absurd e2 (lst_no m hl s y)
        · omega
    | some s =>
      obtain ⟨l1, l2, l3⟩ := lst_so m s hl
      have sn : s < n := by omega
      obtain ⟨⟨a1, a2⟩, -, -, a5, -⟩ := hS.2.1 s sn
      rw [l2] at a5
      rw [f_X10_queueHolders_L14, if_neg (show ¬ (200 : Int32) ≤ nI x6 from nI_ge (b := 200) (by omega) (by omega)), if_neg (ov6_lt s (by omega)), show ov6 (some s) = nI s from rfl]
      simp only [v_letE, v_ibN (show s < 200 by omega) (show 200 < 2 ^ 31 by omega), nI_clamp (show s < 2 ^ 31 by omega), v_ckT, a1, v_ibN a2 (show 200 < 2 ^ 31 by omega), nI_clamp (show wk s < 2 ^ 31 by omega), h67 (wk s) a2, f_X10_queueHolders_L70, nI_1]
      by_cases c : ch (wk s) = some s
      · rw [if_pos ((ov6_ne (by omega) (fun u hu => by have := (hcv (wk s) u a2 hu).1; omega)).mpr c)]
        have nq : ∀ p, p < z → Q p ≠ wk s := fun p hp y => by
          have := hpend (wk s) s p a2 c l2 hp y
          omega
        have zlt := hq.lt a2 nq
        rw [if_neg (show ¬ (200 : Int32) ≤ nI z from nI_ge (b := 200) (by omega) (by omega)), v_ibN zlt (show 200 < 2 ^ 31 by omega), v_ckT, nI_clamp (show z < 2 ^ 31 by omega), v_rdn (by decide), a5]
        have hq' := hq.enq (w := wk s) (s := v) (s' := s) (i := i) a2 nq c (by rw [l2]; exact hT) (by rw [hv.1, l2]) hv.2.1 hv.2.2 hi hQi
        have fr : v_fr [68] [] M (v_wr M 68 z (nI (wk s))) := v_frw (by decide) v_frR
        obtain ⟨M', z', Q', ps', g1, g2, g3, g4, g5, g6, g7, g8⟩ := ih s f (x6 + 1) (z + 1) (upn Q z (wk s)) (upn ps (wk s) v) (v_wr M 68 z (nI (wk s))) (by omega) (by omega) (by omega) (by omega) (hS.keep fr (by decide) (by decide)) hq' (fun p p0 hp => by
          by_cases y : p = z
          · rw [y, upn_s, upn_s, c, Option.getD_some, l2, hrt]
          · rw [upn_n _ y, upn_n _ (nq p (by omega))]
            exact hrb p p0 (by omega)) (by omega) (by rw [upn_n _ (by omega)]; exact hQi) (fun w hw => by rw [v_rdn (by decide)]; exact h67 w hw) (fun p hp => by
          rw [v_rd]
          by_cases y : p = z
          · rw [if_pos ⟨rfl, y⟩, y, upn_s]
          · rw [if_neg (fun q => y q.2), upn_n _ y]; exact h68 p (by omega)) (fun w s1 p hw h1 h2 hp h3 => by
          by_cases y : p = z
          · rw [y, upn_s] at h3
            rw [← h3, c] at h1
            have := Option.some.inj h1
            omega
          · rw [upn_n _ y] at h3
            have := hpend w s1 p hw h1 h2 (by omega) h3
            omega) (fun w s1 hw h1 h2 h3 => by
          by_cases y : s1 = s
          · refine ⟨z, by omega, ?_⟩
            rw [upn_s]
            rw [y] at h1
            exact (hcv w s hw h1).2
          · by_cases y' : s1 < m
            · exact absurd h2 (l3 s1 (by omega) y')
            · obtain ⟨p, hp, hp'⟩ := hvis w s1 hw h1 h2 (by omega)
              exact ⟨p, by omega, by rw [upn_n _ (by omega)]; exact hp'⟩)
        exact ⟨M', z', Q', ps', g1, v_frT fr g2, g3, g4, by omega, fun p hp => by rw [g6 p (by omega), upn_n _ (by omega)], g7, g8⟩
      · rw [if_neg (fun y => c ((ov6_ne (by omega) (fun u hu => by have := (hcv (wk s) u a2 hu).1; omega)).mp y)), a5]
        exact ih s f (x6 + 1) z Q ps M (by omega) (by omega) (by omega) (by omega) hS hq hrb hi hQi h67 h68 (fun w s1 p hw h1 h2 hp h3 => by have := hpend w s1 p hw h1 h2 hp h3; omega) (fun w s1 hw h1 h2 h3 => by
          by_cases y : s1 = s
          · rw [y] at h1
            have := (hcv w s hw h1).2
            rw [← this] at h1
            exact absurd h1 c
          · by_cases y' : s1 < m
            · exact absurd h2 (l3 s1 (by omega) y')
            · exact hvis w s1 hw h1 h2 (by omega))
