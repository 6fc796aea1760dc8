/-! goes -/
def pre (b : Nat → Option Nat) : Nat → List Nat
  | 0 => []
  | k + 1 => match b k with
    | none => pre b k
    | some v => pre b k ++ [v]
def ov6 (o : Option Nat) : Int32 := match o with
  | none => -1
  | some v => nI v
def cut (x : Nat) (b : Nat → Option Nat) (k : Nat) : Option Nat := match b k with
  | none => none
  | some v => if v < x then none else some v
theorem pre_n {b : Nat → Option Nat} {k : Nat} (h : b k = none) : pre b (k + 1) = pre b k := by rw [pre, h]
theorem pre_s {b : Nat → Option Nat} {k v : Nat} (h : b k = some v) : pre b (k + 1) = pre b k ++ [v] := by rw [pre, h]
theorem pre_cut (x : Nat) (b : Nat → Option Nat) : ∀ k : Nat, pre (cut x b) k = flt x (pre b k) := by
  intro k
  induction k with
  | zero => rfl
  | succ k ih =>
    cases h : b k with
    | none => rw [pre_n h, pre_n (show cut x b k = none by unfold cut; rw [h]), ih]
    | some v =>
      rw [pre_s h]
      by_cases z : v < x
      · rw [pre_n (show cut x b k = none by unfold cut; rw [h]; exact if_pos z), ih]
        unfold flt
        rw [List.filter_append, show List.filter (fun v => !decide (v < x)) [v] = [] by rw [List.filter_cons_of_neg (by simp [z])]; rfl, List.append_nil]
      · rw [pre_s (show cut x b k = some v by unfold cut; rw [h]; exact if_neg z), ih]
        unfold flt
        rw [List.filter_append, show List.filter (fun v => !decide (v < x)) [v] = [v] by rw [List.filter_cons_of_pos (by simp [z])]; rfl]
theorem pre_le (b : Nat → Option Nat) : ∀ k : Nat, (pre b k).length ≤ k := by
  intro k
  induction k with
  | zero => exact Nat.le_refl _
  | succ k ih =>
    cases h : b k with
    | none => rw [pre_n h]; omega
    | some v => rw [pre_s h, List.length_append, List.length_singleton]; omega
theorem pre_mo (b : Nat → Option Nat) (k : Nat) : ∀ s : Nat, (pre b k).length ≤ (pre b (k + s)).length := by
  intro s
  induction s with
  | zero => exact Nat.le_refl _
  | succ s ih =>
    rw [show k + (s + 1) = (k + s) + 1 by omega]
    cases h : b (k + s) with
    | none => rw [pre_n h]; exact ih
    | some v => rw [pre_s h, List.length_append, List.length_singleton]; omega
theorem pre_B {b : Nat → Option Nat} {B : Nat} : ∀ k : Nat, (∀ i v, i < k → b i = some v → v ≤ B) → ∀ v ∈ pre b k, v ≤ B := by
  intro k
  induction k with
  | zero => intro _ v hv; exact nomatch hv
  | succ k ih =>
    intro h v hv
    have ih' := ih (fun i v hi e => h i v (by omega) e)
    cases e : b k with
    | none => rw [pre_n e] at hv; exact ih' v hv
    | some u =>
      rw [pre_s e, List.mem_append, List.mem_singleton] at hv
      rcases hv with hv | hv
      · exact ih' v hv
      · rw [hv]; exact h k u (by omega) e
theorem ov6_n {v : Nat} (h : v ≤ 100000) : ¬ ov6 (some v) = -1 := nI_nm1 (by omega)
theorem e_pass (N : Nat) (K140 : Int32 → Int32 → Int32 → Int32 → v_M → Option (Int32 × v_M)) (K159 : Int32 → Int32 → Int32 → Int32 → Int32 → Int32 → v_M → Option (Int32 × v_M)) (x2 x3 x5 x6 : Int32) {np x : Nat} {b : Nat → Option Nat} (hn : np ≤ 24) (hx : x ≤ 100000000) (hb : ∀ i v, i < np → b i = some v → v ≤ 100000) : ∀ (s k f : Nat) (M : v_M), k + s = np → s < f → M.1 79 2 = nI np → (∀ i, i < k → M.1 106 i = ov6 (cut x b i)) → (∀ i, k ≤ i → i < np → M.1 106 i = ov6 (b i)) → ∃ M' : v_M, f_X12_goes_L191 N K140 K159 f x2 x3 x5 x6 (v01 (decide ((pre (cut x b) k).length < (pre b k).length))) (nI x) (nI ((pre (cut x b) k).length + ((pre b np).length - (pre b k).length))) (nI k) M = K159 x2 x3 (nI (pre (cut x b) np).length) x5 x6 (v01 (decide ((pre (cut x b) np).length < (pre b np).length))) M' ∧ v_fr [106] [] M M' ∧ ∀ i, i < np → M'.1 106 i = ov6 (cut x b i) := by
  intro s
  induction s with
  | zero =>
    intro k f M hk hf e h1 h2
    obtain ⟨f, rfl⟩ : ∃ q, f = q + 1 := ⟨f - 1, by omega⟩
    have : k = np := by omega
    subst this
    refine ⟨M, ?_, v_frR, h1⟩
    rw [f_X12_goes_L191, e, if_pos (nI_le (by omega) (by omega)), Nat.sub_self, Nat.add_zero]
  | succ s ih =>
    intro k f M hk hf e h1 h2
    obtain ⟨f, rfl⟩ : ∃ q, f = q + 1 := ⟨f - 1, by omega⟩
    have hk2 := h2 k (Nat.le_refl _) (by omega)
    have mo := pre_mo b (k + 1) s
    rw [show k + 1 + s = np by omega] at mo
    have fl : (pre (cut x b) k).length ≤ (pre b k).length := by rw [pre_cut]; exact flt_le _ _
    have pl := pre_le b np
    rw [f_X12_goes_L191, e, if_neg (nI_ge (show k < np by omega) (by omega))]
    simp only [v_ibN (show k < 24 by omega) (show 24 < 2 ^ 31 by omega), nI_clamp (show k < 2 ^ 31 by omega), v_ckT, v_letE, hk2, f_X12_goes_L237, nI_1]
    have ns : ∀ i, k + 1 ≤ i → i < np → M.1 106 i = ov6 (b i) := fun i hi hn => h2 i (by omega) hn
    cases hbk : b k with
    | none =>
      have hck : cut x b k = none := by unfold cut; rw [hbk]
      rw [if_pos (show ov6 none = -1 from rfl), ← pre_n hbk, ← pre_n hck]
      exact ih (k + 1) f M (by omega) (by omega) e (fun i hi => by
        by_cases q : i = k
        · rw [q, hk2, hbk, hck]
        · exact h1 i (by omega)) ns
    | some v =>
      have vb := hb k v (by omega) hbk
      rw [pre_s hbk, List.length_append, List.length_singleton] at mo
      rw [if_neg (ov6_n vb), show ov6 (some v) = nI v from rfl]
      by_cases z : v < x
      · have hck : cut x b k = none := by unfold cut; rw [hbk]; exact if_pos z
        rw [if_neg (nI_ge z (by omega))]
        have fr : v_fr [106] [] M (v_wr M 106 k (-1)) := v_frw (by decide) v_frR
        have e1 : nI ((pre (cut x b) k).length + ((pre b np).length - (pre b k).length)) + (-1) = nI ((pre (cut x b) (k + 1)).length + ((pre b np).length - (pre b (k + 1)).length)) := by
          rw [pre_s hbk, pre_n hck, List.length_append, List.length_singleton, show (pre (cut x b) k).length + ((pre b np).length - (pre b k).length) = ((pre (cut x b) k).length + ((pre b np).length - ((pre b k).length + 1))) + 1 by omega, nI_m1]
        have e2 : (1 : Int32) = v01 (decide ((pre (cut x b) (k + 1)).length < (pre b (k + 1)).length)) := by
          rw [pre_s hbk, pre_n hck, List.length_append, List.length_singleton, decide_eq_true (by omega)]
          rfl
        rw [e1]
        obtain ⟨M', s1, s2, s3⟩ := ih (k + 1) f (v_wr M 106 k (-1)) (by omega) (by omega) (by rw [v_rdn (by decide), e]) (fun i hi => by
          rw [v_rd]
          by_cases q : i = k
          · rw [if_pos ⟨rfl, q⟩, q, hck]; rfl
          · rw [if_neg (fun y => q y.2)]; exact h1 i (by omega)) (fun i hi hn => by rw [v_rd, if_neg (fun y => by omega)]; exact ns i hi hn)
        rw [← e2] at s1
        exact ⟨M', s1, v_frT fr s2, s3⟩
      · have hck : cut x b k = some v := by unfold cut; rw [hbk]; exact if_neg z
        rw [if_pos (nI_le (by omega) (by omega))]
        have e1 : (pre (cut x b) k).length + ((pre b np).length - (pre b k).length) = (pre (cut x b) (k + 1)).length + ((pre b np).length - (pre b (k + 1)).length) := by
          rw [pre_s hbk, pre_s hck, List.length_append, List.length_singleton, List.length_append, List.length_singleton]
          omega
        have e2 : decide ((pre (cut x b) k).length < (pre b k).length) = decide ((pre (cut x b) (k + 1)).length < (pre b (k + 1)).length) := by
          rw [pre_s hbk, pre_s hck, List.length_append, List.length_singleton, List.length_append, List.length_singleton]
          congr 1
          rw [eq_iff_iff]
          omega
        rw [e1, e2]
        exact ih (k + 1) f M (by omega) (by omega) e (fun i hi => by
          by_cases q : i = k
          · rw [q, hk2, hbk, hck]
          · exact h1 i (by omega)) ns
theorem cut_b {x np B : Nat} {b : Nat → Option Nat} (hb : ∀ i v, i < np → b i = some v → v ≤ B) : ∀ i v, i < np → cut x b i = some v → v ≤ B := fun i v hi h => by
  unfold cut at h
  cases e : b i with
  | none => rw [e] at h; exact nomatch h
  | some u =>
    rw [e] at h
    have h' : (if u < x then none else some u) = some v := h
    by_cases z : u < x
    · rw [if_pos z] at h'; exact nomatch h'
    · rw [if_neg z] at h'
      have : u = v := Option.some.inj h'
      rw [← this]; exact hb i u hi e
theorem e_while {N : Nat} (hN : 100 ≤ N) (K140 : Int32 → Int32 → Int32 → Int32 → v_M → Option (Int32 × v_M)) (x2 x3 x5 : Int32) {np d : Nat} (hn : np ≤ 24) (hd : d ≤ 50000000) : ∀ (k f : Nat) (b : Nat → Option Nat) (M : v_M), (pre b np).length ≤ k → k + 1 < f → (∀ i v, i < np → b i = some v → v ≤ 100000) → M.1 79 2 = nI np → (∀ i, i < np → M.1 106 i = ov6 (b i)) → ∃ (b' : Nat → Option Nat) (M' : v_M), f_X12_goes_L159 N K140 f x2 x3 (nI (pre b np).length) x5 (nI d) 1 M = f_X12_goes_L250 N K140 x2 x3 (nI (pre b' np).length) x5 M' ∧ v_fr [106] [] M M' ∧ (∀ i v, i < np → b' i = some v → v ≤ 100000) ∧ (∀ i, i < np → M'.1 106 i = ov6 (b' i)) ∧ pre b' np = hlf k d (pre b np) := by
  intro k
  induction k with
  | zero =>
    intro f b M hk hf hb e h
    obtain ⟨f, rfl⟩ : ∃ q, f = q + 1 := ⟨f - 1, by omega⟩
    refine ⟨b, M, ?_, v_frR, hb, h, rfl⟩
    rw [f_X12_goes_L159, if_neg (show ¬ (1 : Int32) = 0 by decide), show (pre b np).length = 0 by omega, if_pos (show nI 0 ≤ 0 by decide)]
  | succ k ih =>
    intro f b M hk hf hb e h
    obtain ⟨f, rfl⟩ : ∃ q, f = q + 1 := ⟨f - 1, by omega⟩
    have pl := pre_le b np
    rw [f_X12_goes_L159, if_neg (show ¬ (1 : Int32) = 0 by decide)]
    by_cases z : (pre b np).length = 0
    · refine ⟨b, M, ?_, v_frR, hb, h, by rw [hlf, if_pos z]⟩
      rw [z, if_pos (show nI 0 ≤ 0 by decide)]
    · rw [if_neg (nI_nle (by omega) (by omega)), show v_nz (nI (pre b np).length) = true from by unfold v_nz; rw [decide_eq_true_iff]; exact nI_ne0 (by omega) (by omega), v_ckT, v_letE]
      have dl := Nat.div_le_self (d + (pre b np).length - 1) (pre b np).length
      rw [nI_add, show (1 : Int32) = nI 1 from rfl, nI_sub (by omega) (by omega), nI_div (by omega) (by omega), hlf, if_neg z]
      have ps := e_pass N K140 (f_X12_goes_L159 N K140 f) x2 x3 x5 (nI d) (x := (d + (pre b np).length - 1) / (pre b np).length) (b := b) hn (by omega) hb np 0 N M (by omega) (by omega) e (fun i hi => absurd hi (by omega)) (fun i _ hi => h i hi)
      rw [← pre_cut]
      generalize (d + (pre b np).length - 1) / (pre b np).length = x at ps
      obtain ⟨A, p1, p2, p3⟩ := ps
      have c0 : decide ((pre (cut x b) 0).length < (pre b 0).length) = false := rfl
      rw [c0, show v01 false = 0 from rfl, show (pre (cut x b) 0).length + ((pre b np).length - (pre b 0).length) = (pre b np).length from by show 0 + ((pre b np).length - 0) = _; omega, show nI 0 = 0 from rfl] at p1
      rw [p1]
      have cl : (pre (cut x b) np).length ≤ (pre b np).length := by rw [pre_cut]; exact flt_le _ _
      by_cases y : (pre (cut x b) np).length = (pre b np).length
      · rw [if_pos y, decide_eq_false (by omega)]
        obtain ⟨f, rfl⟩ : ∃ q, f = q + 1 := ⟨f - 1, by omega⟩
        refine ⟨cut x b, A, ?_, p2, cut_b hb, p3, rfl⟩
        rw [f_X12_goes_L159, show v01 false = 0 from rfl, if_pos (show (0 : Int32) = 0 from rfl)]
      · rw [if_neg y, decide_eq_true (by omega)]
        obtain ⟨b', A', s1, s2, s3, s4, s5⟩ := ih f (cut x b) A (by omega) (by omega) (cut_b hb) (by rw [v_keepC p2 79 2 (by decide), e]) p3
        exact ⟨b', A', s1, v_frT p2 s2, s3, s4, s5⟩
theorem e_goes2 {N : Nat} (hN : 1000 ≤ N) {np r q : Nat} (hn : np ≤ 24) (hr : r ≤ 99) (hq : q ≤ 999) : ∀ (s h f : Nat) (b : Nat → Option Nat) (M : v_M), h + s = 401 → s < f → (∀ i v, i < np → b i = some v → v ≤ 100000) → M.1 79 2 = nI np → (∀ i, i < np → M.1 106 i = ov6 (b i)) → ∃ M' : v_M, f_X12_goes_L140 N f (nI r) (nI q) (nI (pre b np).length) (nI h) M = some (gsp (r * q) s h (pre b np), M') ∧ v_fr [106] [] M M' := by
  intro s
  induction s with
  | zero =>
    intro h f b M hh hf hb e hR
    obtain ⟨f, rfl⟩ : ∃ q, f = q + 1 := ⟨f - 1, by omega⟩
    refine ⟨M, ?_, v_frR⟩
    rw [f_X12_goes_L140, if_pos (show (400 : Int32) < nI h from nI_lt (a := 400) (by omega) (by omega))]
    rfl
  | succ s ih =>
    intro h f b M hh hf hb e hR
    obtain ⟨f, rfl⟩ : ∃ q, f = q + 1 := ⟨f - 1, by omega⟩
    have rq : r * q ≤ 99 * 999 := Nat.mul_le_mul hr hq
    have hm : h * (r * q) ≤ 400 * (99 * 999) := Nat.mul_le_mul (by omega) rq
    have pl := pre_le b np
    obtain ⟨b', A, p1, p2, p3, p4, p5⟩ := e_while (show 100 ≤ N by omega) (f_X12_goes_L140 N f) (nI r) (nI q) (nI h) (d := h * (r * q)) hn (by omega) 24 N b M (by omega) (by omega) hb e hR
    have pl' := pre_le b' np
    rw [f_X12_goes_L140, if_neg (show ¬ (400 : Int32) < nI h from nI_nlt (a := 400) (by omega) (by omega)), v_letE, nI_mul, nI_mul, Nat.mul_assoc, p1, f_X12_goes_L250, gsp, ← p5, nI_1]
    by_cases z : (pre b' np).length = 0
    · rw [if_pos z, z, if_pos (show nI 0 = 0 from rfl)]
      exact ⟨A, rfl, p2⟩
    · rw [if_neg z, if_neg (nI_ne0 (by omega) (by omega))]
      obtain ⟨A', s1, s2⟩ := ih (h + 1) f b' A (by omega) (by omega) p3 (by rw [v_keepC p2 79 2 (by decide), e]) p4
      exact ⟨A', s1, v_frT p2 s2⟩
