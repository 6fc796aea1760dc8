/-! the reference's stack of what is open -/
def stk (B : v_M) : List Nat → Prop
  | [] => True
  | k :: O => B.1 119 O.length = nI k ∧ stk B O
def Wn : List Nat → Nat
  | [] => 0
  | k :: O => (if k = 9 then 1 else 0) + Wn O
def RX (B : v_M) (d : Nat) (S : List Nat) : Prop := B.1 79 37 = nI d ∧ B.1 79 39 = nI S.length ∧ S.length ≤ 401 ∧ Wn S ≤ d ∧ (∀ k ∈ S, k ≤ 12) ∧ stk B S
theorem stk_fr {B B' : v_M} : ∀ {S : List Nat}, stk B S → (∀ i, i < S.length → B'.1 119 i = B.1 119 i) → stk B' S
  | [], _, _ => trivial
  | k :: O, h, e => by
    rw [List.length_cons] at e
    exact ⟨by rw [e _ (by omega)]; exact h.1, stk_fr h.2 (fun i hi => e i (by omega))⟩
theorem RX.fr {B B' : v_M} {d : Nat} {S : List Nat} (h : RX B d S) (e7 : B'.1 79 37 = B.1 79 37) (e9 : B'.1 79 39 = B.1 79 39) (f9 : B'.1 119 = B.1 119) : RX B' d S := ⟨e7.trans h.1, e9.trans h.2.1, h.2.2.1, h.2.2.2.1, h.2.2.2.2.1, stk_fr h.2.2.2.2.2 (fun i _ => by rw [f9])⟩
theorem e_top (N : Nat) {B : v_M} {d k : Nat} {O : List Nat} (h : RX B d (k :: O)) : f_X12_top N B = some (nI k, B) := by
  obtain ⟨h1, h2, h3, h4, h5, h6⟩ := h
  rw [List.length_cons] at h2 h3
  unfold f_X12_top
  rw [h2, if_neg (fun w => by have := (nI_eqX (a := O.length + 1) (b := 0) (by omega) (by omega)).mp w; omega), show nI (O.length + 1) - 1 = nI O.length from nI_subX (a := O.length + 1) (b := 1) (by omega), v_ibN (show O.length < 402 by omega) (by omega), v_ckT, nI_clamp (by omega), h6.1]
theorem e_top0 (N : Nat) {B : v_M} {d : Nat} (h : RX B d []) : f_X12_top N B = some (-1, B) := by
  unfold f_X12_top
  rw [h.2.1, if_pos (show nI ([] : List Nat).length = 0 from rfl)]
theorem ans_no (N f : Nat) {B : v_M} {d k : Nat} {S : List Nat} (h : RX B d S) (hk : k < 13) (ht : S.head? ≠ some k) {x : Int32} (hx : x = nI k) : f_X12_answers_L0 N (f + 1) x B = some (0, B) := by
  subst hx
  rw [f_X12_answers_L0]
  match S, h, ht with
  | [], h, _ =>
    rw [e_top0 N h, Option.bind_some]
    dsimp only
    rw [if_neg (fun w => nI_nm1 (by omega) w.symm)]
  | j :: O, h, ht =>
    have hj := h.2.2.2.2.1 j (List.mem_cons_self ..)
    rw [e_top N h, Option.bind_some]
    dsimp only
    rw [if_neg (fun w => ht (by rw [(nI_eqX (a := j) (b := k) (by omega) (by omega)).mp w]; rfl))]
theorem ans_step (N f : Nat) {B : v_M} {d k o v : Nat} {O : List Nat} {L : List Op} (h : RX B d (k :: O)) (hr : RC B o v L) (hl : L.length < 300) {x : Int32} (hx : x = nI k) : ∃ B' : v_M, f_X12_answers_L0 N (f + 1) x B = f_X12_answers_L0 N f x B' ∧ v_fr [108, 109] [(79, 36), (79, 37), (79, 39)] B B' ∧ RC B' o v (L ++ [(k, 0)]) ∧ RX B' (if k = 9 then d - 1 else d) O := by
  subst hx
  have hk := h.2.2.2.2.1 k (List.mem_cons_self ..)
  obtain ⟨B1, b1, f1, r1⟩ := e_entry N hr hl (k, 0) (x := nI k) (y := 0) rfl rfl
  rw [f_X12_answers_L0, e_top N h, Option.bind_some]
  dsimp only
  rw [if_pos rfl, if_pos hr.1, b1, Option.bind_some]
  dsimp only
  obtain ⟨h1, h2, h3, h4, h5, h6⟩ := h
  rw [List.length_cons] at h2 h3
  rw [Wn] at h4
  have e9 : B1.1 79 39 = nI (O.length + 1) := by rw [v_keepC f1 79 39 (by decide), h2]
  have e7 : B1.1 79 37 = nI d := by rw [v_keepC f1 79 37 (by decide), h1]
  rw [v_letE, e9, show nI (O.length + 1) - 1 = nI O.length from nI_subX (a := O.length + 1) (b := 1) (by omega)]
  have e7' : (v_wr B1 79 39 (nI O.length)).1 79 37 = nI d := by rw [v_rd, if_neg (by decide), e7]
  have k9 : (nI k = (9 : Int32)) ↔ k = 9 := nI_eqX (b := 9) (by omega) (by omega)
  unfold f_X12_answers_L47
  rw [v_letE, v_letE, e7']
  have fin : ∀ d', (d' = if k = 9 then d - 1 else d) → ∃ B' : v_M, f_X12_answers_L0 N f (nI k) (v_wr (v_wr B1 79 39 (nI O.length)) 79 37 (nI d')) = f_X12_answers_L0 N f (nI k) B' ∧ v_fr [108, 109] [(79, 36), (79, 37), (79, 39)] B B' ∧ RC B' o v (L ++ [(k, 0)]) ∧ RX B' (if k = 9 then d - 1 else d) O := by
    intro d' hd
    have f2 : v_fr [] [(79, 37), (79, 39)] B1 (v_wr (v_wr B1 79 39 (nI O.length)) 79 37 (nI d')) := v_fro (by decide) (v_fro (by decide) v_frR)
    have f3 : v_fr [108, 109] [(79, 36), (79, 37), (79, 39)] B (v_wr (v_wr B1 79 39 (nI O.length)) 79 37 (nI d')) := v_frt (by decide) (by decide) (v_frt (by decide) (by decide) v_frR f1) f2
    refine ⟨_, rfl, f3, r1.fr (v_keepC f2 79 34 (by decide)) (v_keepC f2 79 35 (by decide)) (v_keepC f2 79 36 (by decide)) (v_keepC f2 79 38 (by decide)) (v_keepR f2 108 (by decide)) (v_keepR f2 109 (by decide)), by rw [v_rdS, hd], by rw [v_rd, if_neg (by decide), v_rdS], by omega, ?_, fun j hj => h5 j (List.mem_cons_of_mem _ hj), stk_fr h6.2 (fun i _ => by rw [v_keepR f3 119 (by decide)])⟩
    by_cases z : k = 9
    · rw [if_pos z] at h4 ⊢; omega
    · rw [if_neg z] at h4 ⊢; omega
  by_cases z : k = 9
  · rw [if_pos (k9.mpr z), show nI d - 1 = nI (d - 1) from nI_subX (a := d) (b := 1) (by rw [if_pos z] at h4; omega)]
    exact fin (d - 1) (by rw [if_pos z])
  · rw [if_neg (fun w => z (k9.mp w)), show nI d - 0 = nI d from nI_subX (a := d) (b := 0) (by omega)]
    exact fin d (by rw [if_neg z])
theorem ans_mono (N : Nat) : ∀ (f : Nat) (x : Int32) (M : v_M) (r : Int32 × v_M), f_X12_answers_L0 N f x M = some r → f_X12_answers_L0 N (f + 1) x M = some r := by
  intro f
  induction f with
  | zero => intro x M r h; rw [f_X12_answers_L0] at h; cases h
  | succ f ih =>
    intro x M r h
    rw [f_X12_answers_L0] at h ⊢
    cases ht : f_X12_top N M with
    | none => rw [ht] at h; cases h
    | some t =>
      rw [ht, Option.bind_some] at h
      rw [Option.bind_some]
      by_cases c1 : t.1 = x
      · rw [if_pos c1] at h ⊢
        by_cases c2 : t.2.1 79 34 = 0
        · rw [if_pos c2] at h ⊢
          cases he : f_X12_entry N x 0 t.2 with
          | none => rw [he] at h; cases h
          | some e =>
            rw [he, Option.bind_some] at h
            rw [Option.bind_some]
            rw [v_letE] at h ⊢
            unfold f_X12_answers_L47 at h ⊢
            rw [v_letE, v_letE] at h ⊢
            by_cases c3 : x = 9
            · rw [if_pos c3] at h ⊢; exact ih _ _ _ h
            · rw [if_neg c3] at h ⊢; exact ih _ _ _ h
        · rw [if_neg c2] at h ⊢; exact h
      · rw [if_neg c1] at h ⊢; exact h
theorem ans9 (N : Nat) {o v : Nat} : ∀ (S : List Nat) (f d : Nat) (L : List Op) (B : v_M), S.length < f → RX B d S → RC B o v L → L.length + Wn S < 300 → ∃ r, f_X12_answers_L0 N f 9 B = some r := by
  intro S
  induction S with
  | nil =>
    intro f d L B hf h hr hl
    obtain ⟨g, rfl⟩ : ∃ g, f = g + 1 := ⟨f - 1, by rw [List.length_nil] at hf; omega⟩
    exact ⟨_, ans_no N g h (k := 9) (by omega) (fun w => nomatch w) rfl⟩
  | cons k O ih =>
    intro f d L B hf h hr hl
    rw [List.length_cons] at hf
    obtain ⟨g, rfl⟩ : ∃ g, f = g + 1 := ⟨f - 1, by omega⟩
    by_cases z : k = 9
    · subst z
      rw [Wn, if_pos rfl] at hl
      obtain ⟨B', e, _, r', x'⟩ := ans_step N g h hr (by omega) (x := 9) rfl
      rw [e]
      exact ih g _ (L ++ [(9, 0)]) B' (by omega) x' r' (by rw [List.length_append]; show L.length + 1 + _ < 300; omega)
    · exact ⟨_, ans_no N g h (k := 9) (by omega) (fun w => z (Option.some.inj w)) rfl⟩
