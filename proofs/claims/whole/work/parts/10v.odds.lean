/-! odds: what is left behind so many flights -/
def kL (n : Nat) : Int64 := Int64.ofInt n
theorem kL_toInt {n : Nat} (h : n < 2 ^ 62) : (kL n).toInt = n := by
  unfold kL
  rw [Int64.toInt_ofInt_of_le (by omega) (by omega)]
theorem l_eq {x y : Int64} : x = y ↔ x.toInt = y.toInt := Int64.toInt_inj.symm
theorem l_bm {x : Int} (h1 : -(2 ^ 62) ≤ x) (h2 : x < 2 ^ 62) : x.bmod (2 ^ 64) = x := Int.bmod_eq_of_le (by omega) (by omega)
theorem kL_add {a b : Nat} (h : a + b < 2 ^ 62) : kL a + kL b = kL (a + b) := by
  rw [l_eq, Int64.toInt_add, kL_toInt (by omega), kL_toInt (by omega), kL_toInt h, l_bm (by omega) (by omega)]
  omega
theorem kL_sub {a b : Nat} (hb : b ≤ a) (h : a < 2 ^ 62) : kL a - kL b = kL (a - b) := by
  rw [l_eq, Int64.toInt_sub, kL_toInt (by omega), kL_toInt (by omega), kL_toInt (by omega), l_bm (by omega) (by omega)]
  omega
theorem kL_mul {a b : Nat} (ha : a < 2 ^ 62) (hb : b < 2 ^ 62) (h : a * b < 2 ^ 62) : kL a * kL b = kL (a * b) := by
  have e : ((a : Int) * (b : Int)) = ((a * b : Nat) : Int) := (Int.natCast_mul a b).symm
  rw [l_eq, Int64.toInt_mul, kL_toInt ha, kL_toInt hb, kL_toInt h, e, l_bm (by omega) (by omega)]
theorem kL_div {a b : Nat} (ha : a < 2 ^ 62) (hb : b < 2 ^ 62) : kL a / kL b = kL (a / b) := by
  have h : a / b < 2 ^ 62 := Nat.lt_of_le_of_lt (Nat.div_le_self _ _) ha
  have h0 : (0 : Int) ≤ ((a / b : Nat) : Int) := Int.natCast_nonneg _
  rw [l_eq, Int64.toInt_div, kL_toInt ha, kL_toInt hb, kL_toInt h, Int.tdiv_eq_ediv_of_nonneg (by omega), ← Int.natCast_ediv]
  generalize a / b = q at h h0
  rw [l_bm (by omega) (by omega)]
theorem kL_of {n : Nat} (h : n < 2 ^ 31) : (nI n).toInt64 = kL n := by
  rw [l_eq, Int32.toInt_toInt64, nI_toInt h, kL_toInt (by omega)]
theorem kL_to {n : Nat} (h : n < 2 ^ 31) : (kL n).toInt32 = nI n := by
  rw [i_eq, nI_toInt h, Int64.toInt_toInt32, kL_toInt (by omega)]
  exact Int.bmod_eq_of_le (by omega) (by omega)
theorem kL_lt {a b : Nat} (ha : a < 2 ^ 62) (hb : b < 2 ^ 62) : kL a < kL b ↔ a < b := by
  rw [Int64.lt_iff_toInt_lt, kL_toInt ha, kL_toInt hb]
  omega
theorem kL_le0 {a : Nat} (ha : a < 2 ^ 62) : (lg_cmp (kL a) (0 : Int64) ≤ 0) ↔ a = 0 := by
  rw [show (lg_cmp (kL a) (0 : Int64) ≤ 0) ↔ ¬ (0 < lg_cmp (kL a) (0 : Int64)) by rw [i_le, i_lt]; omega, lg_cmp_gt, show (0 : Int64) = kL 0 from rfl, kL_lt (by omega) ha]
  omega
theorem kL_nz {a : Nat} (ha : 0 < a) (hb : a < 2 ^ 62) : v_nzl (kL a) = true := by
  unfold v_nzl
  rw [decide_eq_true_iff, l_eq, kL_toInt hb, show (0 : Int64).toInt = 0 from rfl]
  omega
def lss (c u : Nat) : Nat := (c * u + 999999) / 1000000
def itr (g : Nat → Nat) : Nat → Nat → Nat
  | 0, c => c
  | n + 1, c => itr g n (g c)
theorem itr_le {g : Nat → Nat} (h : ∀ c, g c ≤ c) : ∀ n c : Nat, itr g n c ≤ c := by
  intro n
  induction n with
  | zero => intro c; exact Nat.le_refl _
  | succ n ih => intro c; exact Nat.le_trans (ih (g c)) (h c)
theorem itr_id {g : Nat → Nat} (h : ∀ c, g c = c) : ∀ n c : Nat, itr g n c = c := by
  intro n
  induction n with
  | zero => intro c; rfl
  | succ n ih => intro c; rw [itr, ih, h]
theorem itr_add (g : Nat → Nat) : ∀ a b c : Nat, itr g (a + b) c = itr g b (itr g a c) := by
  intro a
  induction a with
  | zero => intro b c; rw [Nat.zero_add]; rfl
  | succ a ih => intro b c; rw [show a + 1 + b = (a + b) + 1 by omega, itr, itr, ih]
theorem lss_d (c u : Nat) : (c * u + 999999) / 1000000 = lss c u := by unfold lss; exact Eq.refl _
def bhn (u n c : Nat) : Nat := itr (fun c => c - lss c u) n c
theorem bhn_z (u c : Nat) : bhn u 0 c = c := rfl
theorem bhn_s (u n c : Nat) : bhn u (n + 1) c = bhn u n (c - lss c u) := by unfold bhn; rw [itr]
theorem lss_le {c u : Nat} (hu : u ≤ 1000000) : lss c u ≤ c := by
  unfold lss
  have : c * u ≤ c * 1000000 := Nat.mul_le_mul_left _ hu
  omega
theorem bhn_le {u : Nat} (n c : Nat) : bhn u n c ≤ c := itr_le (fun c => Nat.sub_le _ _) n c
theorem bhn_0 {u : Nat} (n : Nat) : bhn u n 0 = 0 := Nat.le_zero.mp (bhn_le n 0)
theorem bhn_u0 (n c : Nat) : bhn 0 n c = c := itr_id (fun c => by rw [show lss c 0 = 0 by unfold lss; omega]; rfl) n c
theorem bhn_add (u a b c : Nat) : bhn u (a + b) c = bhn u b (bhn u a c) := itr_add _ a b c
theorem lss_b {c u l : Nat} (h : lss c u = l) (hl : 0 < l) : (l - 1) * 1000000 < c * u ∧ c * u ≤ l * 1000000 := by
  unfold lss at h
  generalize c * u = x at h ⊢
  omega
theorem lss_of {x u l : Nat} (hl : 0 < l) (h1 : (l - 1) * 1000000 < x * u) (h2 : x * u ≤ l * 1000000) : lss x u = l := by
  unfold lss
  generalize x * u = y at h1 h2 ⊢
  omega
theorem bhn_leap {u c l la : Nat} (hu : 0 < u) (h : lss c u = l) (hl : 0 < l) (hla : la = (l - 1) * 1000000 / u + 1) : ∀ t : Nat, t * l + la ≤ c + l → bhn u t c = c - t * l := by
  intro t
  induction t with
  | zero => intro _; rw [Nat.zero_mul, bhn_z]; rfl
  | succ t ih =>
    intro ht
    rw [Nat.succ_mul] at ht
    obtain ⟨b1, b2⟩ := lss_b h hl
    have e := ih (by omega)
    rw [bhn_add u t 1 c, e, bhn_s, bhn_z]
    have : lss (c - t * l) u = l := by
      apply lss_of hl
      · have hd : (l - 1) * 1000000 / u < c - t * l := by omega
        exact (Nat.div_lt_iff_lt_mul hu).mp hd
      · exact Nat.le_trans (Nat.mul_le_mul_right _ (Nat.sub_le _ _)) b2
    rw [this, Nat.succ_mul]
    omega
theorem v_letP {α β : Type} (x : α) (f : α → β) : v_let x f = f x := by have := v_letE x f; exact this
theorem v_ckP {α : Type} (x : Option α) : v_ck true x = x := by have := v_ckT x; exact this
theorem kL_M : (1000000 : Int64) = kL 1000000 := by decide +kernel
theorem kL_1 : (1 : Int64) = kL 1 := by decide +kernel
theorem kL_nzM : v_nzl (1000000 : Int64) = true := by decide +kernel
theorem e_n1 {c u : Nat} (hc : c ≤ 1000000) (hu : u ≤ 1000000) (cu : c * u ≤ 1000000000000) : ((kL c * kL u + 1000000 - 1) / 1000000) = kL (lss c u) := by
  rw [kL_mul (by omega) (by omega) (by omega), kL_M, kL_1, kL_add (by omega), kL_sub (by omega) (by omega), kL_div (by omega) (by omega), show c * u + 1000000 - 1 = c * u + 999999 by omega, lss_d]
theorem e_n2 {l u : Nat} (hl : l ≤ 1000000) (l1 : 0 < l) (hu : u ≤ 1000000) : (kL l - 1) * 1000000 / kL u + 1 = kL ((l - 1) * 1000000 / u + 1) := by
  have := Nat.div_le_self ((l - 1) * 1000000) u
  rw [kL_M, kL_1, kL_sub (by omega) (by omega), kL_mul (by omega) (by omega) (by omega), kL_div (by omega) (by omega), kL_add (by omega)]
theorem e_n3 {c g l : Nat} (hc : c ≤ 1000000) (hg : g ≤ c) (hl : l ≤ 1000000) : (kL c - kL g) / kL l + 1 = kL ((c - g) / l + 1) := by
  have := Nat.div_le_self (c - g) l
  rw [kL_1, kL_sub (by omega) (by omega), kL_div (by omega) (by omega), kL_add (by omega)]
theorem e_n4 {al n : Nat} (ha : al ≤ 1000000) (hn : n ≤ 9999) (h1 : 0 < n) : v_lx 1 (v_ln (kL (al + 1)) (nI n).toInt64) = kL (min (al + 1) n) := by
  rw [kL_of (by omega)]
  unfold v_ln v_lx
  rw [kL_1]
  by_cases q : n < al + 1
  · rw [if_pos ((kL_lt (by omega) (by omega)).mpr q), if_neg (fun z => by have := (kL_lt (by omega) (by omega)).mp z; omega), Nat.min_eq_right (by omega)]
  · rw [if_neg (fun z => q ((kL_lt (by omega) (by omega)).mp z)), if_neg (fun z => by have := (kL_lt (by omega) (by omega)).mp z; omega), Nat.min_eq_left (by omega)]
theorem e_none1 (N : Nat) {u F : Nat} (hu : u ≤ 1000000) (hF : F ≤ 9999) (M : v_M) : ∀ (f n k c : Nat), n < f → n + k ≤ F → c ≤ 1000000 → f_X11_noneAfter_L9 N f (nI u) (nI F) (kL c) (nI n) (nI k) M = some (nI (bhn u n c), M) := by
  intro f
  induction f with
  | zero => intro n k c h; omega
  | succ f ih =>
    intro n k c hf hk hc
    have hn : n ≤ 9999 := by omega
    rw [f_X11_noneAfter_L9]
    by_cases k0 : F ≤ k
    · have n0 : n = 0 := by omega
      subst n0
      rw [if_pos (nI_le k0 (by omega)), kL_to (by omega), bhn_z]
    rw [if_neg (nI_ge (show k < F by omega) (by omega))]
    by_cases n0 : n = 0
    · subst n0
      rw [if_pos (show nI 0 ≤ 0 from nI_le (b := 0) (Nat.le_refl 0) (by omega)), kL_to (by omega), bhn_z]
    rw [if_neg (show ¬ nI n ≤ 0 from nI_ge (a := 0) (show 0 < n by omega) (by omega))]
    by_cases c0 : c = 0
    · subst c0
      rw [if_pos ((kL_le0 (by omega)).mpr rfl), kL_to (by omega), bhn_0]
    rw [if_neg (fun z => c0 ((kL_le0 (by omega)).mp z))]
    by_cases u0 : u = 0
    · subst u0
      rw [if_pos (show nI 0 ≤ 0 from nI_le (b := 0) (Nat.le_refl 0) (by omega)), kL_to (by omega), bhn_u0]
    rw [if_neg (show ¬ nI u ≤ 0 from nI_ge (a := 0) (show 0 < u by omega) (by omega))]
    have cu : c * u ≤ 1000000000000 := Nat.le_trans (Nat.mul_le_mul hc hu) (by omega)
    have cu1 : 0 < c * u := Nat.mul_pos (by omega) (by omega)
    have e1 := e_n1 hc hu cu
    have ll := lss_le (c := c) hu
    have l1 : 0 < lss c u := by unfold lss; generalize c * u = x at cu1; omega
    generalize hl : lss c u = l at e1 ll l1
    have e2 := e_n2 (l := l) (u := u) (by omega) l1 hu
    obtain ⟨b1, b2⟩ := lss_b hl l1
    have la : (l - 1) * 1000000 / u < c := (Nat.div_lt_iff_lt_mul (by omega)).mpr b1
    simp only [v_letP, kL_nzM, v_ckP, kL_of (show u < 2 ^ 31 by omega), kL_nz (show 0 < u by omega) (by omega)]
    rw [e1, e2, if_neg (fun z => by have := (kL_le0 (by omega)).mp z; omega), kL_nz l1 (by omega)]
    have gl : l - 1 ≤ (l - 1) * 1000000 / u := (Nat.le_div_iff_mul_le (by omega)).mpr (Nat.mul_le_mul_left _ hu)
    generalize hla : (l - 1) * 1000000 / u = g0 at la gl
    generalize hg : g0 + 1 = g
    have e3 := e_n3 (g := g) hc (by omega) (show l ≤ 1000000 by omega)
    rw [e3, v_ckT]
    have hal : ((c - g) / l) * l ≤ c - g := Nat.div_mul_le_self _ _
    have hal2 := Nat.div_le_self (c - g) l
    generalize (c - g) / l = al at hal hal2
    rw [f_X11_noneAfter_L81]
    simp only [v_letP, nI_1]
    have e4 := e_n4 (al := al) (n := n) (by omega) hn (by omega)
    rw [e4]
    have tl : min (al + 1) n ≤ n := Nat.min_le_right _ _
    have tl2 : min (al + 1) n ≤ al + 1 := Nat.min_le_left _ _
    have t1 : 0 < min (al + 1) n := by omega
    generalize min (al + 1) n = t at tl tl2 t1
    have tm : t * l ≤ al * l + l := by have := Nat.mul_le_mul_right l tl2; rw [Nat.succ_mul] at this; exact this
    have tp : t * l ≤ 2000000 := by omega
    rw [kL_mul (by omega) (by omega) (by omega), kL_to (by omega), nI_sub tl (by omega), kL_sub (by omega) (by omega), ih (n - t) (k + 1) (c - t * l) (by omega) (by omega) (by omega)]
    have := bhn_leap (u := u) (c := c) (l := l) (la := g) (by omega) hl l1 (by rw [← hg, ← hla]) t (by omega)
    rw [show bhn u n c = bhn u (n - t) (bhn u t c) by rw [← bhn_add]; congr 1; omega, this]
