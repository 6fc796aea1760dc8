/-! a comparing -/
def cmpJ (t : Nat) : Nat := if t = 60 then 4 else if t = 61 then 6 else if t = 62 then 8 else if t = 257 then 5 else if t = 258 then 7 else 0
def cmpX (t : Nat) : Int32 := if cmpJ t = 0 then 0 else cod (cmpJ t, 0)
theorem cmpJ_b (t : Nat) : cmpJ t = 0 ∨ (4 ≤ cmpJ t ∧ cmpJ t ≤ 8) := by
  unfold cmpJ
  repeat' split
  all_goals omega
theorem k_comparing (N : Nat) {A : v_M} {q : Nat} {c : Nat → Nat} {T K p v : Nat} {L : List Op} (h : CR A q c T K p v L) : f_X7_comparing N A = some (cmpX (t_tk c T p), A) := by
  have s1 := h.sg (j := 60) (x := 60) (by omega) rfl
  have s2 := h.sg (j := 61) (x := 61) (by omega) rfl
  have s3 := h.sg (j := 62) (x := 62) (by omega) rfl
  have s4 := h.sg (j := 257) (x := 257) (by omega) rfl
  have s5 := h.sg (j := 258) (x := 258) (by omega) rfl
  unfold f_X7_comparing
  simp only [s1, s2, s3, s4, s5]
  unfold cmpX cmpJ
  by_cases k1 : t_tk c T p = 60
  · simp only [if_pos k1]; rfl
  · simp only [if_neg k1]
    by_cases k2 : t_tk c T p = 61
    · simp only [if_pos k2]; rfl
    · simp only [if_neg k2]
      by_cases k3 : t_tk c T p = 62
      · simp only [if_pos k3]; rfl
      · simp only [if_neg k3]
        by_cases k4 : t_tk c T p = 257
        · simp only [if_pos k4]; rfl
        · simp only [if_neg k4]
          by_cases k5 : t_tk c T p = 258
          · simp only [if_pos k5]; rfl
          · simp only [if_neg k5, if_true]
theorem t_60 {c : Nat → Nat} {T p x : Nat} (hx : x = 60 ∨ x = 62) (h : p < T) (e : c p = x) : (p + 1 < T ∧ c (p + 1) = 61 → t_tk c T p = (if x = 60 then 257 else 258) ∧ t_te c T p = p + 2) ∧ (¬ (p + 1 < T ∧ c (p + 1) = 61) → t_tk c T p = x ∧ t_te c T p = p + 1) := by
  have hd : t_isD (c p) = false := by rw [e]; rcases hx with rfl | rfl <;> rfl
  have hl : t_isL (c p) = false := by rw [e]; rcases hx with rfl | rfl <;> rfl
  constructor
  · intro k
    constructor
    · unfold t_tk
      rw [if_neg (by omega), hd, if_neg (by decide), hl, if_neg (by decide), e]
      rcases hx with rfl | rfl
      · rw [if_pos ⟨rfl, k⟩]; rfl
      · rw [if_neg (fun q => by omega), if_pos ⟨rfl, k⟩]; rfl
    · unfold t_te
      rw [if_neg (by omega), hd, if_neg (by decide), hl, if_neg (by decide), e, if_pos ⟨hx, k⟩]
  · intro k
    constructor
    · unfold t_tk
      rw [if_neg (by omega), hd, if_neg (by decide), hl, if_neg (by decide), if_neg (fun q => k q.2), if_neg (fun q => k q.2), e]
    · unfold t_te
      rw [if_neg (by omega), hd, if_neg (by decide), hl, if_neg (by decide), if_neg (fun q => k q.2)]
theorem y_cmp {N : Nat} {B0 B B1 : v_M} {c : Nat → Nat} {T p : Nat} (h0 : f_X12_sum N B0 = some (0, B)) (h : PR B c T p) (h1 : f_X12_isCounted N (nI p) B = some (0, B1)) : (cmpJ (t_tk c T p) = 0 → f_X12_compared N B0 = (f_X12_fails N 0 (nI p) B).bind fun z => some (0, z.2)) ∧ (¬ cmpJ (t_tk c T p) = 0 → ∃ B2 : v_M, v_fr [] [(79, 33)] B1 B2 ∧ B2.1 79 33 = nI (t_te c T p) ∧ f_X12_compared N B0 = (f_X12_sum N B2).bind fun z => (f_X12_entry N (nI (cmpJ (t_tk c T p))) 0 z.2).bind fun z => some (0, z.2)) := by
  have hT := h.1.1
  have hp := h.2.1
  have hc := h.1.2.1
  have f1 := fr_X12_isCounted h1
  have e1 : B1.1 79 33 = nI p := by rw [v_keepC f1 79 33 (by decide), h.2.2]
  have t1 : TR B1 c T := h.1.fr (v_keepC f1 79 32 (by decide)) (v_keepR f1 107 (by decide))
  have ft : v_fr [] [(79, 33)] B1 (v_wr B1 79 33 (nI (p + 1))) := v_fro (by decide) v_frR
  have g61 := t_sgn (c := c) (T := T) (p := p) (k := 61) hc (by omega) rfl rfl (by omega) (by omega) (x := 61) rfl
  have e2 : (v_wr B1 79 33 (nI (p + 1))).1 79 33 = nI (p + 1) := v_rdS
  have es1 : p < T → f_X12_sign N (v_wr B1 79 33 (nI (p + 1))) = some (t_by c T (p + 1), v_wr B1 79 33 (nI (p + 1))) := fun _ => e_sign N (t1.fp ft) (by omega) e2
  unfold f_X12_compared
  rw [h0, Option.bind_some]
  dsimp only
  rw [e_sign N h.1 (by omega) h.2.2, Option.bind_some]
  dsimp only
  rw [v_letE, h.2.2]
  have L37 : ∀ x : Int32, f_X12_compared_L37 N x B = (if x = 61 then f_X12_compared_L74 N x (v_wr B1 79 33 (nI (p + 1))) else ((f_X12_sign N (v_wr B1 79 33 (nI (p + 1)))).bind fun z3 => if z3.1 = (61 : Int32) then (f_X12_compared_L75 N x (1 : Int32) z3.2) else (f_X12_compared_L74 N x z3.2))) := by
    intro x
    unfold f_X12_compared_L37
    rw [h.2.2, h1, Option.bind_some]
    dsimp only
    rw [v_letE, e1, nI_1]
  have one : ∀ x : Nat, (x = 60 ∨ x = 62) → p < T → c p = x → ∃ B2 : v_M, v_fr [] [(79, 33)] B1 B2 ∧ B2.1 79 33 = nI (t_te c T p) ∧ f_X12_compared_L37 N (nI x) B = (f_X12_sum N B2).bind fun z => (f_X12_entry N (nI (cmpJ (t_tk c T p))) 0 z.2).bind fun z => some (0, z.2) := by
    intro x hx hlt ex
    rw [L37, if_neg (fun w => by have := (nI_eqX (a := x) (b := 61) (by omega) (by omega)).mp w; omega), es1 hlt, Option.bind_some]
    dsimp only
    obtain ⟨u1, u2⟩ := t_60 (c := c) (T := T) hx hlt ex
    by_cases k : p + 1 < T ∧ c (p + 1) = 61
    · rw [if_pos ((t_by_61 hc).mpr k)]
      unfold f_X12_compared_L75 f_X12_compared_L90
      rw [if_neg (by decide), v_letE, e2, show nI (p + 1) + 1 = nI (p + 2) from nI_add (p + 1) 1]
      refine ⟨v_wr (v_wr B1 79 33 (nI (p + 1))) 79 33 (nI (p + 2)), v_fro (by decide) ft, by rw [v_rdS, (u1 k).2], ?_⟩
      rw [(u1 k).1]
      rcases hx with rfl | rfl <;> rfl
    · rw [if_neg (fun w => k ((t_by_61 hc).mp w))]
      unfold f_X12_compared_L74 f_X12_compared_L75 f_X12_compared_L90
      rw [if_pos rfl, v_letE, e2, show nI (p + 1) + 0 = nI (p + 1) from nI_add (p + 1) 0]
      refine ⟨v_wr (v_wr B1 79 33 (nI (p + 1))) 79 33 (nI (p + 1)), v_fro (by decide) ft, by rw [v_rdS, (u2 k).2], ?_⟩
      rw [(u2 k).1]
      rcases hx with rfl | rfl <;> rfl
  by_cases k60 : t_by c T p = 60
  · have w := (t_by_60 hc).mp k60
    rw [if_pos k60, k60]
    refine ⟨fun z => ?_, fun _ => one 60 (Or.inl rfl) w.1 w.2⟩
    exfalso
    obtain ⟨u1, u2⟩ := t_60 (c := c) (T := T) (Or.inl rfl) w.1 w.2
    by_cases k : p + 1 < T ∧ c (p + 1) = 61
    · rw [(u1 k).1] at z; exact absurd z (by decide)
    · rw [(u2 k).1] at z; exact absurd z (by decide)
  · rw [if_neg k60]
    by_cases k61 : t_by c T p = 61
    · have tk := g61.1.mp k61
      rw [if_pos k61, k61, tk]
      refine ⟨fun z => absurd z (by decide), fun _ => ?_⟩
      rw [L37, if_pos rfl]
      unfold f_X12_compared_L74 f_X12_compared_L75 f_X12_compared_L90
      rw [if_pos rfl, v_letE, e2, show nI (p + 1) + 0 = nI (p + 1) from nI_add (p + 1) 0]
      exact ⟨v_wr (v_wr B1 79 33 (nI (p + 1))) 79 33 (nI (p + 1)), v_fro (by decide) ft, by rw [v_rdS, (g61.2 tk).2], rfl⟩
    · rw [if_neg k61]
      by_cases k62 : t_by c T p = 62
      · have w := (t_by_62 hc).mp k62
        rw [if_pos k62, k62]
        refine ⟨fun z => ?_, fun _ => one 62 (Or.inr rfl) w.1 w.2⟩
        exfalso
        obtain ⟨u1, u2⟩ := t_60 (c := c) (T := T) (Or.inr rfl) w.1 w.2
        by_cases k : p + 1 < T ∧ c (p + 1) = 61
        · rw [(u1 k).1] at z; exact absurd z (by decide)
        · rw [(u2 k).1] at z; exact absurd z (by decide)
      · rw [if_neg k62]
        refine ⟨fun _ => rfl, fun z => ?_⟩
        exfalso
        apply z
        have n60 : ¬ (p < T ∧ c p = 60) := fun w => k60 ((t_by_60 hc).mpr w)
        have n62 : ¬ (p < T ∧ c p = 62) := fun w => k62 ((t_by_62 hc).mpr w)
        have n61 : ¬ t_tk c T p = 61 := fun w => k61 (g61.1.mpr w)
        have hb := t_wd_b c p (t_eL c T p)
        have : t_tk c T p ≠ 60 ∧ t_tk c T p ≠ 62 ∧ t_tk c T p ≠ 257 ∧ t_tk c T p ≠ 258 := by
          by_cases hlt : p < T
          · have := hc p hlt
            have m60 : ¬ c p = 60 := fun w => n60 ⟨hlt, w⟩
            have m62 : ¬ c p = 62 := fun w => n62 ⟨hlt, w⟩
            unfold t_tk
            rw [if_neg (by omega)]
            repeat' split
            all_goals omega
          · rw [t_tk_e (by omega)]; omega
        unfold cmpJ
        rw [if_neg this.1, if_neg n61, if_neg this.2.1, if_neg this.2.2.1, if_neg this.2.2.2]
/-- what readFact does where neither not nor a bracket stands -/
def r3_cmp (N : Nat) (qo : Nat) (M : v_M) : Option (Int32 × v_M) :=
  (f_X7_readSum N qo M).bind fun z1 => if z1.1 = 0 then (v_ck (v_b01 (0 : Int32)) <| some ((0 : Int32), z1.2)) else ((f_X7_comparing N z1.2).bind fun z2 => v_let (z2.1) fun y3 => if y3 = 0 then ((f_X7_fail N (0 : Int32) z2.2).bind fun z9 => v_ck (v_b01 z9.1) <| some (z9.1, z9.2)) else (if (z2.2.1 35 5) < (60 : Int32) then (v_let (v_wr z2.2 35 5 ((z2.2.1 35 5) + (1 : Int32))) fun M4 => (f_X7_step N M4).bind fun z5 => (f_X7_readSum N qo z5.2).bind fun z6 => if z6.1 = 0 then (v_ck (v_b01 (0 : Int32)) <| some ((0 : Int32), z6.2)) else ((f_X5_emit N qo y3 z6.2).bind fun z7 => v_ck (v_b01 (1 : Int32)) <| some ((1 : Int32), z7.2))) else ((f_X7_fail N (3 : Int32) z2.2).bind fun z8 => v_ck (v_b01 z8.1) <| some (z8.1, z8.2))))
theorem r3_fact (N q : Nat) (rf : Int32 → v_M → Option (Int32 × v_M)) (x : Int32) (A : v_M) : f_X7_readFact N q rf x A = if A.1 35 3 = (279 : Int32) then f_X7_readFact_L19 N q rf x A else if A.1 35 3 = (91 : Int32) then f_X7_readFact_L19 N q rf x A else r3_cmp N q A := rfl
theorem s_cmp {N : Nat} (hN : 1000 ≤ N) {A B : v_M} {q o : Nat} {c : Nat → Nat} {T K p v : Nat} {L : List Op} (h : CR A q c T K p v L) (hb : PB B c T p) (hr : RC B o v L) (hv : v ≤ 60) (hw : 3 * L.length ≤ 6 * v + p) : ∃ (b : Bool) (A' B' : v_M), r3_cmp N q A = some (v01 b, A') ∧ f_X12_compared N B = some (0, B') ∧ (b = true → ∃ (S : List Op) (a p' : Nat), TruE S a ∧ BO A' B' q o c T K p' (v + a) (L ++ S) ∧ p < p' ∧ 3 * S.length + 3 ≤ 6 * a) ∧ (b = false → BD A' B' c T) := by
  have hT := h.2.2.1
  obtain ⟨b, A1, B1, ea, eb, ok, bad⟩ := s_sum hN h hb hr hv hw
  unfold r3_cmp
  rw [ea, Option.bind_some]
  dsimp only
  rw [v01_0]
  cases b with
  | false =>
    obtain ⟨F, eF, fb⟩ := bad rfl
    obtain ⟨t1, hF, e4, p1, hp1, e3⟩ := id fb
    obtain ⟨B2, b2, fb2⟩ := fb_count N fb (nI p1)
    have y := y_cmp eb (⟨t1, hp1, e3⟩ : PR B1 c T p1) b2
    by_cases z : cmpJ (t_tk c T p1) = 0
    · obtain ⟨B3, b3, fb3⟩ := fb_fails N fb 0 (nI p1)
      refine ⟨false, A1, B3, by rw [if_neg (by decide), v_b0, v_ckT]; rfl, by rw [y.1 z, b3, Option.bind_some], (fun w => nomatch w), fun _ => ⟨F, eF, fb3⟩⟩
    · obtain ⟨B3, f3, q3, e⟩ := y.2 z
      have fb3 : FB B3 c T F := FB.at fb2.1 (v_keepC f3 79 32 (by decide)) (v_keepR f3 107 (by decide)) hF (by rw [v_keepC f3 79 34 (by decide), fb2.2.2.1]) (t_te_le hp1) q3
      obtain ⟨B4, b4, fb4⟩ := fb_sum hN fb3
      refine ⟨false, A1, B4, by rw [if_neg (by decide), v_b0, v_ckT]; rfl, ?_, (fun w => nomatch w), fun _ => ⟨F, eF, fb4⟩⟩
      rw [e, b4, Option.bind_some]
      dsimp only
      rw [fb_entry N fb4, Option.bind_some]
  | true =>
    obtain ⟨S1, a1, p1, hS1, ⟨c1, pr1, r1, hv1⟩, hp1, hw1, hl1⟩ := ok rfl
    have hp1T := pr1.2.1
    rw [if_pos rfl, k_comparing N c1, Option.bind_some]
    dsimp only
    rw [v_letE]
    have e5 := c1.2.2.2.2.2.2.2.1
    have l5 : (nI (v + a1) < (60 : Int32)) ↔ v + a1 < 60 := nI_ltX (b := 60) (by omega) (by omega)
    by_cases z : cmpJ (t_tk c T p1) = 0
    · rw [if_pos (show cmpX (t_tk c T p1) = 0 from if_pos z)]
      obtain ⟨A2, x2, g2⟩ := e_fail N c1 0 (x := 0) rfl
      rw [x2, Option.bind_some, v_b0, v_ckT]
      obtain ⟨B3, b3, fb3⟩ := e_bad N r1 pr1 (p' := p1) (w := 0) hp1T (by omega) (x := 0) (y := nI p1) rfl rfl
      have hcnt : ∃ B2, f_X12_isCounted N (nI p1) B1 = some (0, B2) := by
        by_cases v6 : v + a1 = 60
        · rw [v6] at r1
          obtain ⟨B2, b2, _⟩ := e_countF N r1 pr1 (p' := p1) hp1T
          exact ⟨B2, b2⟩
        · obtain ⟨B2, b2, _⟩ := e_count N r1 (by omega) (nI p1)
          exact ⟨B2, b2⟩
      obtain ⟨B2, b2⟩ := hcnt
      exact ⟨false, A2, B3, rfl, by rw [(y_cmp eb pr1 b2).1 z, b3, Option.bind_some], (fun w => nomatch w), fun _ => ⟨_, g2, fb3⟩⟩
    · have cj := cmpJ_b (t_tk c T p1)
      have cX : cmpX (t_tk c T p1) = cod (cmpJ (t_tk c T p1), 0) := if_neg z
      have cn : ¬ cmpX (t_tk c T p1) = 0 := by
        rw [cX]
        have : cmpJ (t_tk c T p1) = 4 ∨ cmpJ (t_tk c T p1) = 5 ∨ cmpJ (t_tk c T p1) = 6 ∨ cmpJ (t_tk c T p1) = 7 ∨ cmpJ (t_tk c T p1) = 8 := by omega
        rcases this with w | w | w | w | w <;> rw [w] <;> decide
      have hlt : p1 < T := by
        refine Classical.byContradiction (fun w => z ?_)
        rw [t_tk_e (by omega)]; rfl
      rw [if_neg cn, e5]
      by_cases v6 : v + a1 < 60
      · rw [if_pos (l5.mpr v6), v_letE, nI_1]
        obtain ⟨A2, x2, c2⟩ := e_step N (c1.val (v + a1 + 1))
        obtain ⟨B2, b2, f2, r2⟩ := e_count N r1 v6 (nI p1)
        obtain ⟨B3, f3, q3, e⟩ := (y_cmp eb pr1 b2).2 z
        have pr3 : PR B3 c T (t_te c T p1) := ⟨pr1.1.fr (by rw [v_keepC f3 79 32 (by decide), v_keepC f2 79 32 (by decide)]) (by rw [v_keepR f3 107 (by decide), v_keepR f2 107 (by decide)]), t_te_le hp1T, q3⟩
        have ng := t_nx_gt (c := c) hlt
        obtain ⟨b4, A4, B4, ea4, eb4, ok4, bad4⟩ := s_sum hN c2 (o := o) (B := B3) pr3.pb (r2.fp f3) (by omega) (by omega)
        rw [x2, Option.bind_some]
        dsimp only
        rw [ea4, Option.bind_some]
        dsimp only
        rw [v01_0]
        cases b4 with
        | false =>
          obtain ⟨F, eF, fb⟩ := bad4 rfl
          refine ⟨false, A4, B4, by rw [if_neg (by decide), v_b0, v_ckT]; rfl, ?_, (fun w => nomatch w), fun _ => ⟨F, eF, fb⟩⟩
          rw [e, eb4, Option.bind_some]
          dsimp only
          rw [fb_entry N fb, Option.bind_some]
        | true =>
          obtain ⟨S2, a2, p2, hS2, ⟨c4, pr4, r4, hv4⟩, hp2, hw4, hl4⟩ := ok4 rfl
          have hp2T := pr4.2.1
          obtain ⟨A5, x5, c5⟩ := e_emit N c4 (by omega) (cmpJ (t_tk c T p1), 0) cX
          obtain ⟨B5, b5, f5, r5⟩ := e_entry N r4 (by omega) (cmpJ (t_tk c T p1), 0) (x := nI (cmpJ (t_tk c T p1))) (y := 0) rfl rfl
          have pr5 : PR B5 c T p2 := ⟨pr4.1.fr (v_keepC f5 79 32 (by decide)) (v_keepR f5 107 (by decide)), hp2T, by rw [v_keepC f5 79 33 (by decide), pr4.2.2]⟩
          rw [if_pos rfl, x5, Option.bind_some, v_b1, v_ckT]
          have eL : L ++ (S1 ++ S2 ++ [(cmpJ (t_tk c T p1), 0)]) = L ++ S1 ++ S2 ++ [(cmpJ (t_tk c T p1), 0)] := by simp
          have ev : v + (a1 + 1 + a2) = v + a1 + 1 + a2 := by omega
          refine ⟨true, A5, B5, rfl, ?_, fun _ => ⟨S1 ++ S2 ++ [(cmpJ (t_tk c T p1), 0)], a1 + 1 + a2, p2, tru_cmp hS1 hS2 (by omega), ?_, by omega, ?_⟩, (fun w => nomatch w)⟩
          · rw [e, eb4, Option.bind_some]
            dsimp only
            rw [b5, Option.bind_some]
          · rw [eL, ev]
            exact ⟨c5, pr5, r5, by omega⟩
          · rw [List.length_append, List.length_append]
            show 3 * (S1.length + S2.length + 1) + 3 ≤ _
            omega
      · rw [if_neg (fun w => v6 (l5.mp w))]
        obtain ⟨A2, x2, g2⟩ := e_fail N c1 3 (x := 3) rfl
        rw [x2, Option.bind_some, v_b0, v_ckT]
        rw [show v + a1 = 60 by omega] at r1
        obtain ⟨B2, b2, fb2⟩ := e_countF N r1 pr1 (p' := p1) hp1T
        obtain ⟨B3, f3, q3, e⟩ := (y_cmp eb pr1 b2).2 z
        have fb3 : FB B3 c T (1 + 8 * p1 + 3) := FB.at fb2.1 (v_keepC f3 79 32 (by decide)) (v_keepR f3 107 (by decide)) fb2.2.1 (by rw [v_keepC f3 79 34 (by decide), fb2.2.2.1]) (t_te_le hp1T) q3
        obtain ⟨B4, b4, fb4⟩ := fb_sum hN fb3
        refine ⟨false, A2, B4, rfl, ?_, (fun w => nomatch w), fun _ => ⟨_, g2, fb4⟩⟩
        rw [e, b4, Option.bind_some]
        dsimp only
        rw [fb_entry N fb4, Option.bind_some]
