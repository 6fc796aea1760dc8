/-! stamps: chains -/
def lst (f : Nat → Nat) (x : Nat) : Nat → Option Nat
  | 0 => none
  | n + 1 => if f n = x then some n else lst f x n
theorem lst_c {f g : Nat → Nat} {x : Nat} : ∀ n : Nat, (∀ i, i < n → f i = g i) → lst f x n = lst g x n := by
  intro n
  induction n with
  | zero => intro _; rfl
  | succ n ih => intro h; rw [lst, lst, h n (by omega), ih (fun i hi => h i (by omega))]
theorem lst_n {f : Nat → Nat} {x : Nat} : ∀ n : Nat, (∀ i, i < n → f i ≠ x) → lst f x n = none := by
  intro n
  induction n with
  | zero => intro _; rfl
  | succ n ih => intro h; rw [lst, if_neg (h n (by omega)), ih (fun i hi => h i (by omega))]
def wkO (M : v_M) (i : Nat) : Nat := tN (M.1 53 i)
def tfO (M : v_M) (i : Nat) : Nat := tN (M.1 56 i)
def ky (M : v_M) (i : Nat) (a b : Int32) : Prop := M.1 54 i = a ∧ M.1 55 i = b
def J_chn (M : v_M) (n : Nat) : Prop := (∀ i, i < n → M.1 56 i = nI (tfO M i) ∧ tfO M i ≤ i ∧ ky M (tfO M i) (M.1 54 i) (M.1 55 i) ∧ ∀ j, j < tfO M i → ¬ ky M j (M.1 54 i) (M.1 55 i)) ∧ (∀ i, i < n → M.1 57 i = ov6 (lst (wkO M) (wkO M i) i) ∧ M.1 58 i = ov6 (lst (tfO M) (tfO M i) i)) ∧ (∀ w, w < 200 → M.1 59 w = ov6 (lst (wkO M) w n)) ∧ (∀ t i, i < n → tfO M i = t → M.1 60 t = ov6 (lst (tfO M) t n))
theorem e_fturn (N : Nat) {n : Nat} (hn : n ≤ 200) (x1 x2 : Int32) {M : v_M} (e : M.1 52 0 = nI n) : ∀ (s i f : Nat), i + s = n → s < f → (∀ j, j < i → ¬ ky M j x1 x2) → ∃ k : Nat, k ≤ n ∧ f_X8_findTurn_L2 N f x1 x2 (nI i) M = some (nI k, M) ∧ (∀ j, j < k → ¬ ky M j x1 x2) ∧ (k < n → ky M k x1 x2) := by
  intro s
  induction s with
  | zero =>
    intro i f hi hf h
    obtain ⟨f, rfl⟩ : ∃ q, f = q + 1 := ⟨f - 1, by omega⟩
    refine ⟨n, Nat.le_refl _, ?_, fun j hj => h j (by omega), fun q => absurd q (by omega)⟩
    rw [f_X8_findTurn_L2, e, if_pos (nI_le (by omega) (by omega))]
  | succ s ih =>
    intro i f hi hf h
    obtain ⟨f, rfl⟩ : ∃ q, f = q + 1 := ⟨f - 1, by omega⟩
    rw [f_X8_findTurn_L2, e, if_neg (nI_ge (show i < n by omega) (by omega))]
    simp only [v_ibN (show i < 200 by omega) (show 200 < 2 ^ 31 by omega), nI_clamp (show i < 2 ^ 31 by omega), v_ckT, f_X8_findTurn_L32, nI_1]
    by_cases c : ky M i x1 x2
    · rw [if_pos c.1, if_pos c.2]
      exact ⟨i, by omega, rfl, h, fun _ => c⟩
    · have go := ih (i + 1) f (by omega) (by omega) (fun j hj => by
        by_cases q : j = i
        · rw [q]; exact c
        · exact h j (by omega))
      by_cases c1 : M.1 54 i = x1
      · rw [if_pos c1, if_neg (fun z => c ⟨c1, z⟩)]
        exact go
      · rw [if_neg c1]
        exact go
def p_M (M : v_M) (n w : Nat) (x2 x3 : Int32) (k : Nat) : v_M := v_wr (v_wr (v_wr (v_wr (v_wr (v_wr (v_wr (v_wr (v_wr M 53 n (nI w)) 54 n x2) 55 n x3) 56 n (nI k)) 57 n (M.1 59 w)) 59 w (nI n)) 58 n (if k < n then M.1 60 k else -1)) 60 k (nI n)) 52 0 (nI (n + 1))
theorem p_r (M : v_M) (n w : Nat) (x2 x3 : Int32) (k j : Nat) : (p_M M n w x2 x3 k).1 53 j = (if j = n then nI w else M.1 53 j) ∧ (p_M M n w x2 x3 k).1 54 j = (if j = n then x2 else M.1 54 j) ∧ (p_M M n w x2 x3 k).1 55 j = (if j = n then x3 else M.1 55 j) ∧ (p_M M n w x2 x3 k).1 56 j = (if j = n then nI k else M.1 56 j) ∧ (p_M M n w x2 x3 k).1 57 j = (if j = n then M.1 59 w else M.1 57 j) ∧ (p_M M n w x2 x3 k).1 58 j = (if j = n then (if k < n then M.1 60 k else -1) else M.1 58 j) ∧ (p_M M n w x2 x3 k).1 59 j = (if j = w then nI n else M.1 59 j) ∧ (p_M M n w x2 x3 k).1 60 j = (if j = k then nI n else M.1 60 j) := by
  unfold p_M
  simp only [v_rd, Nat.reduceEqDiff, false_and, if_false, true_and, and_self]
theorem p_f (M : v_M) (n w : Nat) (x2 x3 : Int32) (k : Nat) : v_fr [53, 54, 55, 56, 57, 58, 59, 60] [(52, 0)] M (p_M M n w x2 x3 k) := by
  unfold p_M
  exact v_fro (by decide) (v_frw (by decide) (v_frw (by decide) (v_frw (by decide) (v_frw (by decide) (v_frw (by decide) (v_frw (by decide) (v_frw (by decide) (v_frw (by decide) v_frR))))))))
theorem e_put {N : Nat} (hN : 300 ≤ N) {n w : Nat} (hn : n < 200) (hw : w < 200) (x2 x3 : Int32) {M : v_M} (e : M.1 52 0 = nI n) (h : J_chn M n) : ∃ k : Nat, k ≤ n ∧ f_X8_put N (nI w) x2 x3 M = some (nI n, p_M M n w x2 x3 k) ∧ J_chn (p_M M n w x2 x3 k) (n + 1) := by
  obtain ⟨k, hk, g1, g2, g3⟩ := e_fturn N (show n ≤ 200 by omega) x2 x3 e n 0 N (by omega) (by omega) (fun j hj => absurd hj (by omega))
  refine ⟨k, hk, ?_, ?_⟩
  · unfold f_X8_put f_X8_findTurn
    rw [e, if_neg (show ¬ (200 : Int32) ≤ nI n from nI_ge (b := 200) (by omega) (by omega)), e_within, Option.bind_some, v_wiTe (show (0 : Int32) ≤ nI w ∧ nI w ≤ 199 from ⟨nI_le (a := 0) (by omega) (by omega), nI_le (b := 199) (by omega) (by omega)⟩), v_letE, show (0 : Int32) = nI 0 from rfl, g1, Option.bind_some]
    simp only [v_letE, v_ibN (show n < 200 by omega) (show 200 < 2 ^ 31 by omega), nI_clamp (show n < 2 ^ 31 by omega), v_ibN (show w < 200 by omega) (show 200 < 2 ^ 31 by omega), nI_clamp (show w < 2 ^ 31 by omega), v_ibN (show k < 200 by omega) (show 200 < 2 ^ 31 by omega), nI_clamp (show k < 2 ^ 31 by omega), v_ckT, v_rdn, ne_eq, Nat.reduceEqDiff, not_false_eq_true, f_X8_put_L115, nI_1, e]
    unfold p_M
    by_cases c : k < n
    · rw [if_neg (nI_ge c (by omega)), if_pos c]
    · rw [if_pos (nI_le (by omega) (by omega)), if_neg c]
  · obtain ⟨h1, h2, h3, h4⟩ := h
    have r := p_r M n w x2 x3 k
    have w1 : ∀ i, i < n → wkO (p_M M n w x2 x3 k) i = wkO M i := fun i hi => by unfold wkO; rw [(r i).1, if_neg (by omega)]
    have w2 : wkO (p_M M n w x2 x3 k) n = w := by unfold wkO tN; rw [(r n).1, if_pos rfl, nI_toInt (by omega)]; rfl
    have t1 : ∀ i, i < n → tfO (p_M M n w x2 x3 k) i = tfO M i := fun i hi => by unfold tfO; rw [(r i).2.2.2.1, if_neg (by omega)]
    have t2 : tfO (p_M M n w x2 x3 k) n = k := by unfold tfO tN; rw [(r n).2.2.2.1, if_pos rfl, nI_toInt (by omega)]; rfl
    have k1 : ∀ i a b, i < n → (ky (p_M M n w x2 x3 k) i a b ↔ ky M i a b) := fun i a b hi => by unfold ky; rw [(r i).2.1, (r i).2.2.1, if_neg (by omega), if_neg (by omega)]
    have kn : k < n → tfO M k = k := fun c => by
      obtain ⟨-, q2, q3, -⟩ := h1 k c
      by_cases z : tfO M k < k
      · refine absurd ?_ (g2 _ z)
        have := g3 c
        unfold ky at q3 this ⊢
        rw [q3.1, q3.2]
        exact this
      · omega
    generalize hP : p_M M n w x2 x3 k = P at r w1 w2 t1 t2 k1
    refine ⟨fun i hi => ?_, fun i hi => ?_, fun v hv => ?_, fun t i hi ht => ?_⟩
    · by_cases q : i = n
      · subst q
        rw [t2, (r i).2.2.2.1, (r i).2.1, (r i).2.2.1, if_pos rfl, if_pos rfl, if_pos rfl]
        refine ⟨rfl, hk, ?_, fun j hj z => g2 j hj ((k1 j _ _ (by omega)).mp z)⟩
        by_cases c : k < i
        · exact (k1 k _ _ c).mpr (g3 c)
        · have : k = i := by omega
          unfold ky
          rw [this, (r i).2.1, (r i).2.2.1, if_pos rfl, if_pos rfl]
          exact ⟨rfl, rfl⟩
      · obtain ⟨a1, a2, a3, a4⟩ := h1 i (by omega)
        rw [t1 i (by omega), (r i).2.2.2.1, (r i).2.1, (r i).2.2.1, if_neg q, if_neg q, if_neg q]
        exact ⟨a1, a2, (k1 _ _ _ (by omega)).mpr a3, fun j hj z => a4 j hj ((k1 j _ _ (by omega)).mp z)⟩
    · by_cases q : i = n
      · subst q
        rw [w2, t2, (r i).2.2.2.2.1, (r i).2.2.2.2.2.1, if_pos rfl, if_pos rfl, lst_c i w1, lst_c i t1]
        refine ⟨h3 w hw, ?_⟩
        by_cases c : k < i
        · rw [if_pos c]
          exact h4 k k c (kn c)
        · rw [if_neg c, lst_n i (fun j hj z => by have := (h1 j hj).2.1; omega)]
          rfl
      · rw [w1 i (by omega), t1 i (by omega), (r i).2.2.2.2.1, (r i).2.2.2.2.2.1, if_neg q, if_neg q, lst_c i (fun j hj => w1 j (by omega)), lst_c i (fun j hj => t1 j (by omega))]
        exact h2 i (by omega)
    · rw [(r v).2.2.2.2.2.2.1, lst, w2, lst_c n w1]
      by_cases q : v = w
      · rw [if_pos q, if_pos q.symm]; rfl
      · rw [if_neg q, if_neg (fun z => q z.symm)]
        exact h3 v hv
    · rw [(r t).2.2.2.2.2.2.2, lst, t2, lst_c n t1]
      by_cases q : t = k
      · rw [if_pos q, if_pos q.symm]; rfl
      · rw [if_neg q, if_neg (fun z => q z.symm)]
        have : i ≠ n := fun z => q (by rw [← ht, z, t2])
        exact h4 t i (by omega) (by rw [← ht, t1 i (by omega)])
def J_sta1 (M : v_M) (nm i : Nat) : Prop := (∃ m t : Nat, m < nm ∧ t < 10 ∧ M.1 122 i = nI m ∧ M.1 123 i = nI t ∧ M.1 53 i = nI (10 * m + t)) ∧ M.1 124 i = M.1 54 i ∧ M.1 125 i = M.1 55 i ∧ ∃ d : Nat, d ≤ 9999 ∧ M.1 55 i = nI d
def J_stac (M : v_M) (nm n : Nat) : Prop := n ≤ 200 ∧ M.1 52 0 = nI n ∧ M.1 79 60 = nI n ∧ (∀ i, i < n → J_sta1 M nm i) ∧ J_chn M n
theorem st_stamp {N : Nat} (hN : 300 ≤ N) (x1 x2 x3 x4 : Int32) {M : v_M} {np nm n : Nat} (ht : J_time M) (hf : J_fleetc M np nm) (h : J_stac M nm n) : ∃ (r : Int32) (M1 M2 : v_M), f_X11_stamp N x1 x2 x3 x4 M = some (r, M1) ∧ f_X12_stamp N x1 x2 x3 x4 M1 = some (r, M2) ∧ (∃ n' : Nat, J_stac M2 nm n') ∧ v_fr [53, 54, 55, 56, 57, 58, 59, 60, 122, 123, 124, 125] [(52, 0), (79, 60)] M M2 := by
  obtain ⟨d, hd, t1, t2⟩ := ht
  obtain ⟨f1, f2, ⟨f3, -⟩, -⟩ := hf
  obtain ⟨hn, e1, e2, hp, hc⟩ := id h
  unfold f_X11_stamp f_X12_stamp
  by_cases a : (0 ≤ x1 ∧ x1 ≤ M.1 11 0 - 1) ∧ (0 ≤ x2 ∧ x2 ≤ 9) ∧ (0 ≤ x4 ∧ x4 ≤ M.1 0 0)
  rotate_left
  · rw [(e_canBe N x1 x2 x4 M).2 a, Option.bind_some]
    rw [f1, t1] at a
    refine ⟨-1, M, M, rfl, ?_, ⟨n, h⟩, v_frR⟩
    simp only [l_0, l_9, l_15, e_isMachine, e_in2, Option.bind_some, f2, t2]
    by_cases b1 : M.1 79 60 = 200
    · rw [if_pos b1]
    rw [if_neg b1]
    by_cases b2 : 0 ≤ x1 ∧ x1 ≤ nI nm - 1
    rotate_left
    · rw [v_wiFe b2]
    rw [v_wiTe b2]
    by_cases b3 : 0 ≤ x2 ∧ x2 ≤ 9
    rotate_left
    · rw [v_wiFe b3]
    rw [v_wiTe b3]
    by_cases b4 : 0 ≤ x3 ∧ x3 ≤ 15
    rotate_left
    · rw [v_wiFe b4]
    rw [v_wiTe b4, v_wiFe (fun z => a ⟨b2, b3, z⟩)]
  rw [(e_canBe N x1 x2 x4 M).1 a, Option.bind_some, if_neg (show ¬ (1 : Int32) = 0 by decide), e_within, Option.bind_some]
  rw [f1, t1] at a
  obtain ⟨a1, a2, a4⟩ := a
  by_cases a3 : 0 ≤ x3 ∧ x3 ≤ 15
  rotate_left
  · rw [v_wiFe a3]
    refine ⟨-1, M, M, rfl, ?_, ⟨n, h⟩, v_frR⟩
    simp only [l_0, l_9, l_15, e_isMachine, e_in2, Option.bind_some, f2, t2]
    rw [v_wiTe a1, v_wiTe a2, v_wiFe a3]
    split <;> rfl
  rw [v_wiTe a3, e1]
  by_cases c : n < 200
  rotate_left
  · rw [if_neg (show ¬ nI n < 200 from nI_nlt (b := 200) (by omega) (by omega))]
    refine ⟨-1, M, M, rfl, ?_, ⟨n, h⟩, v_frR⟩
    rw [e2, if_pos (show nI n = 200 by rw [show n = 200 by omega]; rfl)]
  rw [if_pos (show nI n < 200 from nI_lt (b := 200) c (by omega))]
  obtain ⟨m, hm, rfl⟩ := i_idx (by omega) a1
  obtain ⟨t, ht, rfl⟩ := i_idx (c := 10) (by omega) (show 0 ≤ x2 ∧ x2 ≤ nI 10 - 1 from a2)
  have nx : ¬ x4 < 0 := fun q => by have u := i_le.mp a4.1; rw [i_lt] at q; omega
  obtain ⟨dd, hdd, rfl⟩ := nI_of2 (x := x4) (M := nI d) (n := d) (nI_toInt (by omega)) nx a4.2
  rw [nI_work]
  obtain ⟨k, hk, p1, p2⟩ := e_put hN c (show 10 * m + t < 200 by omega) x3 (nI dd) e1 hc
  have fr := p_f M n (10 * m + t) x3 (nI dd) k
  have r := p_r M n (10 * m + t) x3 (nI dd) k
  have r0 : (p_M M n (10 * m + t) x3 (nI dd) k).1 52 0 = nI (n + 1) := by unfold p_M; rw [v_rd, if_pos ⟨rfl, rfl⟩]
  generalize p_M M n (10 * m + t) x3 (nI dd) k = A at p1 p2 fr r r0
  have fB : v_fr [122, 123, 124, 125] [(79, 60)] A (v_wr (v_wr (v_wr (v_wr (v_wr A 122 n (nI m)) 123 n (nI t)) 124 n x3) 125 n (nI dd)) 79 60 (nI (n + 1))) := v_fro (by decide) (v_frw (by decide) (v_frw (by decide) (v_frw (by decide) (v_frw (by decide) v_frR))))
  refine ⟨nI n, A, _, by rw [p1]; rfl, ?_, ⟨n + 1, by omega, ?_, ?_, ?_, ?_⟩, v_frt (by decide) (by decide) (v_frt (by decide) (by decide) v_frR fr) fB⟩
  · have q1 : A.1 79 60 = nI n := by rw [v_keepC fr 79 60 (by decide), e2]
    have q2 : A.1 79 3 = nI nm := by rw [v_keepC fr 79 3 (by decide), f2]
    have q3 : A.1 79 1 = nI d := by rw [v_keepC fr 79 1 (by decide), t2]
    simp only [l_0, l_9, l_15, e_isMachine, e_in2, Option.bind_some, q2, q3]
    rw [if_neg (show ¬ A.1 79 60 = 200 from fun q => by rw [q1] at q; exact absurd ((nI_eq (by omega) (by omega)).mp (show nI n = nI 200 from q)) (by omega)), v_wiTe a1, v_wiTe a2, v_wiTe a3, v_wiTe a4]
    simp only [v_letE, v_rdn, ne_eq, Nat.reduceEqDiff, not_false_eq_true, q1, v_ibN c (show 200 < 2 ^ 31 by omega), v_ckT, nI_clamp (show n < 2 ^ 31 by omega), nI_1]
    rw [v_rd, if_pos ⟨rfl, rfl⟩, nI_pred]
  · rw [v_keepC fB 52 0 (by decide), r0]
  · rw [v_rd, if_pos ⟨rfl, rfl⟩]
  · intro i hi
    unfold J_sta1
    rw [v_keepR fB 53 (by decide), v_keepR fB 54 (by decide), v_keepR fB 55 (by decide)]
    simp only [v_rd, Nat.reduceEqDiff, false_and, if_false, true_and]
    obtain ⟨r1, r2, r3, -⟩ := r i
    by_cases q : i = n
    · subst q
      rw [if_pos rfl] at r1 r2 r3
      rw [if_pos rfl, if_pos rfl, if_pos rfl, if_pos rfl, r1, r2, r3]
      exact ⟨⟨m, t, hm, ht, rfl, rfl, rfl⟩, rfl, rfl, dd, by omega, rfl⟩
    · rw [if_neg q] at r1 r2 r3
      rw [if_neg q, if_neg q, if_neg q, if_neg q, r1, r2, r3, v_keepR fr 122 (by decide), v_keepR fr 123 (by decide), v_keepR fr 124 (by decide), v_keepR fr 125 (by decide)]
      exact hp i (by omega)
  · unfold J_chn wkO tfO ky at p2 ⊢
    rw [v_keepR fB 53 (by decide), v_keepR fB 54 (by decide), v_keepR fB 55 (by decide), v_keepR fB 56 (by decide), v_keepR fB 57 (by decide), v_keepR fB 58 (by decide), v_keepR fB 59 (by decide), v_keepR fB 60 (by decide)]
    exact p2
