/-! signs: the tape, pure -/
def t_en (f : Nat → Bool) : Nat → Nat → Nat
  | 0, p => p
  | n + 1, p => if f p then t_en f n (p + 1) else p
theorem t_en_ge (f : Nat → Bool) : ∀ (n p : Nat), p ≤ t_en f n p
  | 0, _ => Nat.le_refl _
  | n + 1, p => by
    rw [t_en]
    split
    · exact Nat.le_trans (Nat.le_succ p) (t_en_ge f n (p + 1))
    · exact Nat.le_refl _
theorem t_en_le (f : Nat → Bool) : ∀ (n p : Nat), t_en f n p ≤ p + n
  | 0, _ => Nat.le_refl _
  | n + 1, p => by
    rw [t_en]
    split
    · have := t_en_le f n (p + 1); omega
    · omega
theorem t_en_in (f : Nat → Bool) : ∀ (n p i : Nat), p ≤ i → i < t_en f n p → f i = true
  | 0, p, i, h, k => by rw [t_en] at k; omega
  | n + 1, p, i, h, k => by
    rw [t_en] at k
    by_cases c : f p = true
    · rw [if_pos c] at k
      by_cases e : i = p
      · rw [e]; exact c
      · exact t_en_in f n (p + 1) i (by omega) k
    · rw [if_neg c] at k; omega
theorem t_en_out (f : Nat → Bool) : ∀ (n p : Nat), t_en f n p < p + n → f (t_en f n p) = false
  | 0, p, h => by rw [t_en] at h; omega
  | n + 1, p, h => by
    rw [t_en] at h ⊢
    by_cases c : f p = true
    · rw [if_pos c] at h ⊢; exact t_en_out f n (p + 1) (by omega)
    · rw [if_neg c]; exact Bool.eq_false_iff.mpr c
def t_run (f : Nat → Bool) (T p : Nat) : Nat := t_en f (T - p) p
theorem t_run_s {f : Nat → Bool} {T p : Nat} (h : p < T) : t_run f T p = if f p then t_run f T (p + 1) else p := by
  unfold t_run
  rw [show T - p = (T - (p + 1)) + 1 by omega, t_en]
theorem t_run_e {f : Nat → Bool} {T p : Nat} (h : T ≤ p) : t_run f T p = p := by
  unfold t_run
  rw [show T - p = 0 by omega, t_en]
theorem t_run_ge (f : Nat → Bool) (T p : Nat) : p ≤ t_run f T p := t_en_ge f _ p
theorem t_run_le {f : Nat → Bool} {T p : Nat} (h : p ≤ T) : t_run f T p ≤ T := by have := t_en_le f (T - p) p; unfold t_run; omega
theorem t_run_in {f : Nat → Bool} {T p i : Nat} (h : p ≤ i) (k : i < t_run f T p) : f i = true := t_en_in f _ p i h k
theorem t_run_out {f : Nat → Bool} {T p : Nat} (h : t_run f T p < T) : f (t_run f T p) = false := by
  have := t_run_ge f T p
  exact t_en_out f _ p (by unfold t_run at h this; omega)
theorem t_run_n {f : Nat → Bool} {T p : Nat} (h : p < T → f p = false) : t_run f T p = p := by
  by_cases c : p < T
  · rw [t_run_s c, h c]; rfl
  · exact t_run_e (by omega)
theorem t_run_t {f : Nat → Bool} {T p : Nat} (h : p < T) (c : f p = true) : t_run f T p = t_run f T (p + 1) := by rw [t_run_s h, if_pos c]
theorem t_run_r (f : Nat → Bool) (T p : Nat) : t_run f T (t_run f T p) = t_run f T p := t_run_n t_run_out
def t_isB (k : Nat) : Bool := k == 32
def t_isD (k : Nat) : Bool := decide (48 ≤ k) && decide (k ≤ 57)
def t_isL (k : Nat) : Bool := decide (97 ≤ k) && decide (k ≤ 122)
theorem t_isD_i {k : Nat} : t_isD k = true ↔ 48 ≤ k ∧ k ≤ 57 := by simp [t_isD]
theorem t_isL_i {k : Nat} : t_isL k = true ↔ 97 ≤ k ∧ k ≤ 122 := by simp [t_isL]
theorem t_isB_i {k : Nat} : t_isB k = true ↔ k = 32 := by simp [t_isB]
def t_sk (c : Nat → Nat) (T p : Nat) : Nat := t_run (fun i => t_isB (c i)) T p
def t_eD (c : Nat → Nat) (T p : Nat) : Nat := t_run (fun i => t_isD (c i)) T p
def t_eL (c : Nat → Nat) (T p : Nat) : Nat := t_run (fun i => t_isL (c i)) T p
def t_wm (c : Nat → Nat) (p e : Nat) (s : List Nat) : Bool := decide (e = p + s.length) && decide (∀ k, k < s.length → c (p + k) = s.getD k 0)
theorem t_wm_i {c : Nat → Nat} {p e : Nat} {s : List Nat} : t_wm c p e s = true ↔ e = p + s.length ∧ ∀ k, k < s.length → c (p + k) = s.getD k 0 := by
  unfold t_wm
  rw [Bool.and_eq_true, decide_eq_true_iff, decide_eq_true_iff]
theorem t_wm_eq {c : Nat → Nat} {p e : Nat} {s t : List Nat} (h : t_wm c p e s = true) (k : t_wm c p e t = true) : s = t := by
  obtain ⟨h1, h2⟩ := t_wm_i.mp h
  obtain ⟨k1, k2⟩ := t_wm_i.mp k
  have e : s.length = t.length := by omega
  refine List.ext_getElem e (fun i a b => ?_)
  have := (h2 i a).symm.trans (k2 i b)
  simpa [List.getD, List.getElem?_eq_getElem a, List.getElem?_eq_getElem b] using this
def t_wds : List (List Nat) := [[109, 117, 115, 116], [102, 111, 114, 99, 101], [108, 111, 111, 107], [103, 114, 111, 117, 110, 100], [104, 97, 110, 100, 108, 101], [118, 101, 110, 116], [108, 97, 109, 112], [119, 105, 110, 100, 111, 119], [100, 97, 121], [109, 97, 99, 104, 105, 110, 101], [102, 108, 105, 103, 104, 116, 115], [98, 101, 110, 116], [119, 101, 97, 114], [100, 111, 110, 101], [115, 105, 110, 99, 101], [119, 105, 116, 104, 105, 110], [105, 102], [111, 114], [97, 110, 100], [110, 111, 116]]
def t_wix (c : Nat → Nat) (p e : Nat) : List (List Nat) → Nat → Nat
  | [], _ => 259
  | s :: ss, i => if t_wm c p e s then 260 + i else t_wix c p e ss (i + 1)
theorem t_wix_b (c : Nat → Nat) (p e : Nat) : ∀ (ss : List (List Nat)) (i : Nat), 259 ≤ t_wix c p e ss i ∧ t_wix c p e ss i < 260 + i + ss.length
  | [], i => ⟨Nat.le_refl _, by rw [t_wix, List.length_nil]; omega⟩
  | s :: ss, i => by
    rw [t_wix, List.length_cons]
    have := t_wix_b c p e ss (i + 1)
    split <;> omega
theorem t_wix_f {c : Nat → Nat} {p e : Nat} : ∀ {ss : List (List Nat)} {i j : Nat}, t_wix c p e ss i = 260 + i + j → j < ss.length ∧ t_wm c p e (ss.getD j []) = true
  | [], i, j, h => by rw [t_wix] at h; omega
  | s :: ss, i, j, h => by
    rw [t_wix] at h
    by_cases k : t_wm c p e s = true
    · rw [if_pos k] at h
      obtain rfl : j = 0 := by omega
      exact ⟨by rw [List.length_cons]; omega, k⟩
    · rw [if_neg k] at h
      have hb := t_wix_b c p e ss (i + 1)
      by_cases j0 : j = 0
      · subst j0
        exfalso
        clear hb
        have : ∀ (ss : List (List Nat)) (i : Nat), t_wix c p e ss i = 259 ∨ 260 + i ≤ t_wix c p e ss i := by
          intro ss
          induction ss with
          | nil => intro i; exact Or.inl rfl
          | cons a b ih =>
            intro i
            rw [t_wix]
            split
            · exact Or.inr (Nat.le_refl _)
            · rcases ih (i + 1) with q | q
              · exact Or.inl q
              · exact Or.inr (by omega)
        have := this ss (i + 1)
        omega
      · obtain ⟨j', rfl⟩ : ∃ j', j = j' + 1 := ⟨j - 1, by omega⟩
        obtain ⟨a, b⟩ := t_wix_f (c := c) (p := p) (e := e) (ss := ss) (i := i + 1) (j := j') (by omega)
        exact ⟨by rw [List.length_cons]; omega, b⟩
theorem t_wix_t {c : Nat → Nat} {p e : Nat} : ∀ {ss : List (List Nat)} {i j : Nat}, j < ss.length → t_wm c p e (ss.getD j []) = true → (∀ a b, a < b → b < ss.length → ss.getD a [] ≠ ss.getD b []) → t_wix c p e ss i = 260 + i + j
  | [], i, j, h, _, _ => by rw [List.length_nil] at h; omega
  | s :: ss, i, j, h, k, hd => by
    rw [t_wix]
    by_cases j0 : j = 0
    · subst j0
      rw [if_pos (show t_wm c p e s = true from k)]; rfl
    · obtain ⟨j', rfl⟩ : ∃ j', j = j' + 1 := ⟨j - 1, by omega⟩
      rw [List.length_cons] at h
      have k' : t_wm c p e (ss.getD j' []) = true := k
      rw [if_neg (fun q : t_wm c p e s = true => hd 0 (j' + 1) (by omega) (by rw [List.length_cons]; omega) (t_wm_eq q k'))]
      rw [t_wix_t (by omega) k' (fun a b x y => hd (a + 1) (b + 1) (by omega) (by rw [List.length_cons]; omega))]
      omega
theorem t_wds_d : ∀ a b, a < b → b < t_wds.length → t_wds.getD a [] ≠ t_wds.getD b [] := by
  have h : ∀ b, b < 20 → ∀ a, a < b → t_wds.getD a [] ≠ t_wds.getD b [] := by decide +kernel
  exact fun a b x y => h b y a x
def t_wd (c : Nat → Nat) (p e : Nat) : Nat := t_wix c p e t_wds 0
theorem t_wd_i {c : Nat → Nat} {p e j : Nat} (hj : j < 20) : t_wd c p e = 260 + j ↔ t_wm c p e (t_wds.getD j []) = true := by
  constructor
  · intro h
    exact (t_wix_f (i := 0) (by unfold t_wd at h; omega)).2
  · intro h
    have := t_wix_t (i := 0) hj h t_wds_d
    unfold t_wd
    omega
theorem t_wd_b (c : Nat → Nat) (p e : Nat) : 259 ≤ t_wd c p e ∧ t_wd c p e < 280 := by
  have := t_wix_b c p e t_wds 0
  exact ⟨this.1, this.2⟩
/-- the sign at p: 999 at the end -/
def t_tk (c : Nat → Nat) (T p : Nat) : Nat :=
  if T ≤ p then 999 else if t_isD (c p) then 256 else if t_isL (c p) then t_wd c p (t_eL c T p)
  else if c p = 60 ∧ p + 1 < T ∧ c (p + 1) = 61 then 257 else if c p = 62 ∧ p + 1 < T ∧ c (p + 1) = 61 then 258 else c p
def t_te (c : Nat → Nat) (T p : Nat) : Nat :=
  if T ≤ p then p else if t_isD (c p) then t_eD c T p else if t_isL (c p) then t_eL c T p
  else if (c p = 60 ∨ c p = 62) ∧ p + 1 < T ∧ c (p + 1) = 61 then p + 2 else p + 1
def t_nx (c : Nat → Nat) (T p : Nat) : Nat := t_sk c T (t_te c T p)
def t_pl (c : Nat → Nat) (T : Nat) : Nat → Nat
  | 0 => t_sk c T 0
  | k + 1 => t_nx c T (t_pl c T k)
theorem t_te_e {c : Nat → Nat} {T p : Nat} (h : T ≤ p) : t_te c T p = p := if_pos h
theorem t_tk_e {c : Nat → Nat} {T p : Nat} (h : T ≤ p) : t_tk c T p = 999 := if_pos h
theorem t_te_gt {c : Nat → Nat} {T p : Nat} (h : p < T) : p < t_te c T p := by
  unfold t_te
  rw [if_neg (by omega)]
  split
  · rename_i d; unfold t_eD; rw [t_run_t h d]; exact t_run_ge _ _ _
  · split
    · rename_i d; unfold t_eL; rw [t_run_t h d]; exact t_run_ge _ _ _
    · split <;> omega
theorem t_te_le {c : Nat → Nat} {T p : Nat} (h : p ≤ T) : t_te c T p ≤ T := by
  unfold t_te
  by_cases e : T ≤ p
  · rw [if_pos e]; exact h
  rw [if_neg e]
  split
  · exact t_run_le h
  · split
    · exact t_run_le h
    · split <;> omega
theorem t_sk_le {c : Nat → Nat} {T p : Nat} (h : p ≤ T) : t_sk c T p ≤ T := t_run_le h
theorem t_sk_ge (c : Nat → Nat) (T p : Nat) : p ≤ t_sk c T p := t_run_ge _ T p
theorem t_sk_e {c : Nat → Nat} {T p : Nat} (h : T ≤ p) : t_sk c T p = p := t_run_e h
theorem t_sk_sk (c : Nat → Nat) (T p : Nat) : t_sk c T (t_sk c T p) = t_sk c T p := t_run_r _ T p
theorem t_nx_gt {c : Nat → Nat} {T p : Nat} (h : p < T) : p < t_nx c T p := Nat.lt_of_lt_of_le (t_te_gt h) (t_sk_ge c T _)
theorem t_nx_le {c : Nat → Nat} {T p : Nat} (h : p ≤ T) : t_nx c T p ≤ T := t_sk_le (t_te_le h)
theorem t_nx_e {c : Nat → Nat} {T p : Nat} (h : T ≤ p) : t_nx c T p = p := by unfold t_nx; rw [t_te_e h, t_sk_e h]
theorem t_pl_le (c : Nat → Nat) (T : Nat) : ∀ k, t_pl c T k ≤ T
  | 0 => t_sk_le (Nat.zero_le _)
  | k + 1 => t_nx_le (t_pl_le c T k)
theorem t_pl_ge {c : Nat → Nat} {T : Nat} : ∀ {k : Nat}, t_pl c T k < T → k ≤ t_pl c T k
  | 0, _ => Nat.zero_le _
  | k + 1, h => by
    have h0 : t_pl c T k < T := by
      by_cases q : t_pl c T k < T
      · exact q
      · rw [t_pl, t_nx_e (by omega)] at h; omega
    have := t_pl_ge h0
    have := t_nx_gt (c := c) h0
    rw [t_pl]
    omega
theorem t_tk_end {c : Nat → Nat} {T p : Nat} (hc : ∀ i, i < T → c i ≤ 255) : t_tk c T p = 999 ↔ T ≤ p := by
  constructor
  · intro h
    refine Classical.byContradiction (fun q => ?_)
    have h1 := hc p (by omega)
    have h2 := t_wd_b c p (t_eL c T p)
    unfold t_tk at h
    rw [if_neg q] at h
    split at h
    · omega
    · split at h
      · omega
      · split at h
        · omega
        · split at h <;> omega
  · exact t_tk_e
/-- the number from p to e, 0 to 99999, or 100000 where it has too many digits -/
def t_val (c : Nat → Nat) : Nat → Nat → Nat → Nat
  | 0, _, v => v
  | n + 1, p, v => t_val c n (p + 1) (10 * v + c p - 48)
def t_nm (c : Nat → Nat) (T p : Nat) : Nat := if 5 < t_eD c T p - p then 100000 else t_val c (t_eD c T p - p) p 0
theorem t_sk_t {c : Nat → Nat} {T p : Nat} (h : p < T) (k : c p = 32) : t_sk c T p = t_sk c T (p + 1) := t_run_t (f := fun i => t_isB (c i)) h (t_isB_i.mpr k)
theorem t_sk_n {c : Nat → Nat} {T p : Nat} (k : ¬ c p = 32) : t_sk c T p = p := t_run_n (f := fun i => t_isB (c i)) (fun _ => Bool.eq_false_iff.mpr (fun q => k (t_isB_i.mp q)))
theorem t_eD_t {c : Nat → Nat} {T p : Nat} (h : p < T) (k : t_isD (c p) = true) : t_eD c T p = t_eD c T (p + 1) := t_run_t (f := fun i => t_isD (c i)) h k
theorem t_eD_n {c : Nat → Nat} {T p : Nat} (k : t_isD (c p) = false) : t_eD c T p = p := t_run_n (f := fun i => t_isD (c i)) (fun _ => k)
theorem t_eD_e {c : Nat → Nat} {T p : Nat} (h : T ≤ p) : t_eD c T p = p := t_run_e h
theorem t_eL_t {c : Nat → Nat} {T p : Nat} (h : p < T) (k : t_isL (c p) = true) : t_eL c T p = t_eL c T (p + 1) := t_run_t (f := fun i => t_isL (c i)) h k
theorem t_eL_n {c : Nat → Nat} {T p : Nat} (k : t_isL (c p) = false) : t_eL c T p = p := t_run_n (f := fun i => t_isL (c i)) (fun _ => k)
theorem t_eL_e {c : Nat → Nat} {T p : Nat} (h : T ≤ p) : t_eL c T p = p := t_run_e h
theorem t_eD_ge (c : Nat → Nat) (T p : Nat) : p ≤ t_eD c T p := t_run_ge _ T p
theorem t_eL_ge (c : Nat → Nat) (T p : Nat) : p ≤ t_eL c T p := t_run_ge _ T p
theorem t_eD_le {c : Nat → Nat} {T p : Nat} (h : p ≤ T) : t_eD c T p ≤ T := t_run_le h
theorem t_eL_le {c : Nat → Nat} {T p : Nat} (h : p ≤ T) : t_eL c T p ≤ T := t_run_le h
