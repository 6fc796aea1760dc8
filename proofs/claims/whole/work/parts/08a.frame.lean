/-! frames: which cells a function writes; all others stay -/
def v_fr (W : List Nat) (O : List (Nat × Nat)) (M M' : v_M) : Prop := (∀ k j : Nat, k ∉ W → (k, j) ∉ O → M'.1 k j = M.1 k j) ∧ ∀ k, k ∉ W → M'.2 k = M.2 k
theorem v_frR {W : List Nat} {O : List (Nat × Nat)} {M : v_M} : v_fr W O M M := ⟨fun _ _ _ _ => rfl, fun _ _ => rfl⟩
theorem v_frT {W : List Nat} {O : List (Nat × Nat)} {A B C : v_M} (h1 : v_fr W O A B) (h2 : v_fr W O B C) : v_fr W O A C := ⟨fun k j hk hj => (h2.1 k j hk hj).trans (h1.1 k j hk hj), fun k hk => (h2.2 k hk).trans (h1.2 k hk)⟩
theorem v_frt {W W' : List Nat} {O O' : List (Nat × Nat)} {A B C : v_M} (hs : ∀ x ∈ W', x ∈ W) (ho : ∀ x ∈ O', x ∈ O) (h1 : v_fr W O A B) (h2 : v_fr W' O' B C) : v_fr W O A C := v_frT h1 ⟨fun k j hk hj => h2.1 k j (fun q => hk (hs k q)) (fun q => hj (ho _ q)), fun k hk => h2.2 k (fun q => hk (hs k q))⟩
theorem v_frw {W : List Nat} {O : List (Nat × Nat)} {A B : v_M} {k i : Nat} {v : Int32} (hk : k ∈ W) (h : v_fr W O A B) : v_fr W O A (v_wr B k i v) := v_frT h ⟨fun j _ hj _ => by rw [v_wr_n (show j ≠ k from fun e => hj (by rw [e]; exact hk))], fun j hj => rfl⟩
theorem v_fro {W : List Nat} {O : List (Nat × Nat)} {A B : v_M} {k i : Nat} {v : Int32} (hk : (k, i) ∈ O) (h : v_fr W O A B) : v_fr W O A (v_wr B k i v) := by
  refine v_frT h ⟨fun j l _ hl => ?_, fun j hj => rfl⟩
  by_cases e : j = k
  · subst e
    rw [v_wr_1]
    exact pk_un (fun e => hl (by rw [e]; exact hk))
  · rw [v_wr_n e]
theorem v_frl {W : List Nat} {O : List (Nat × Nat)} {A B : v_M} {k i : Nat} {v : Int64} (hk : k ∈ W) (h : v_fr W O A B) : v_fr W O A (v_wl B k i v) := v_frT h ⟨fun j _ hj _ => rfl, fun j hj => v_wl_n (show j ≠ k from fun e => hj (by rw [e]; exact hk))⟩
theorem v_frr {W : List Nat} {O : List (Nat × Nat)} {A B : v_M} {k : Nat} {f : Nat → Int32} (hk : k ∈ W) (h : v_fr W O A B) : v_fr W O A (v_row B k f) := v_frT h ⟨fun j _ hj _ => by simp [v_row, show ¬ j = k from fun e => hj (by rw [e]; exact hk)], fun j hj => rfl⟩
theorem v_ltM {α β : Type} {x : α} {f : α → Option β} {o : β} (h : v_let x f = some o) : ∃ z, z = x ∧ f z = some o := ⟨x, rfl, h⟩
theorem v_iteS {c : Prop} [Decidable c] {α : Type} {a b : α} {o : α} (h : (if c then a else b) = o) : (c ∧ a = o) ∨ (¬ c ∧ b = o) := by
  by_cases q : c
  · rw [if_pos q] at h; exact Or.inl ⟨q, h⟩
  · rw [if_neg q] at h; exact Or.inr ⟨q, h⟩
theorem fr_J0_length_8abf5 {N s : Nat} {M : v_M} {out : Int32 × v_M} (h : f_J0_length_8abf5 N s M = some out) : v_fr [] [] M out.2 := by
  obtain ⟨-, h⟩ := v_ckS h
  cases h; exact v_frR
theorem fr_J0_charAt_5068e {N s : Nat} {x : Int32} {M : v_M} {out : Int32 × v_M} (h : f_J0_charAt_5068e N s x M = some out) : v_fr [] [] M out.2 := by
  obtain ⟨-, h⟩ := v_ckS h
  obtain ⟨-, h⟩ := v_ckS h
  cases h; exact v_frR
theorem fr_X0_heldForce {N : Nat} {M : v_M} {out : Int32 × v_M} (h : f_X0_heldForce N M = some out) : v_fr [] [] M out.2 := by
  have fM : v_fr [] [] M M := v_frR
  unfold f_X0_heldForce at h
  have h := Option.some.inj h
  subst h
  exact fM
theorem fr_X1_add {N : Nat} {x1 : Int32} {x2 : Int32} {x3 : Int32} {x4 : Int32} {x5 : Int32} {M : v_M} {out : Int32 × v_M} (h : f_X1_add N x1 x2 x3 x4 x5 M = some out) : v_fr [30, 31, 32, 33, 34] [(29, 0)] M out.2 := by
  have fM : v_fr [30, 31, 32, 33, 34] [(29, 0)] M M := v_frR
  unfold f_X1_add at h
  rcases v_iteS h with ⟨c, h⟩ | ⟨c, h⟩
  · obtain ⟨y1, ey1, h⟩ := v_ltM h
    obtain ⟨hb, h⟩ := v_ckS h
    obtain ⟨M2, eM2, h⟩ := v_ltM h
    have fM2 : v_fr [30, 31, 32, 33, 34] [(29, 0)] M M2 := by rw [eM2]; exact v_frw (by simp) fM
    obtain ⟨hb, h⟩ := v_ckS h
    obtain ⟨M3, eM3, h⟩ := v_ltM h
    have fM3 : v_fr [30, 31, 32, 33, 34] [(29, 0)] M M3 := by rw [eM3]; exact v_frw (by simp) fM2
    obtain ⟨hb, h⟩ := v_ckS h
    obtain ⟨M4, eM4, h⟩ := v_ltM h
    have fM4 : v_fr [30, 31, 32, 33, 34] [(29, 0)] M M4 := by rw [eM4]; exact v_frw (by simp) fM3
    obtain ⟨hb, h⟩ := v_ckS h
    obtain ⟨M5, eM5, h⟩ := v_ltM h
    have fM5 : v_fr [30, 31, 32, 33, 34] [(29, 0)] M M5 := by rw [eM5]; exact v_frw (by simp) fM4
    obtain ⟨hb, h⟩ := v_ckS h
    obtain ⟨M6, eM6, h⟩ := v_ltM h
    have fM6 : v_fr [30, 31, 32, 33, 34] [(29, 0)] M M6 := by rw [eM6]; exact v_frw (by simp) fM5
    obtain ⟨M7, eM7, h⟩ := v_ltM h
    have fM7 : v_fr [30, 31, 32, 33, 34] [(29, 0)] M M7 := by rw [eM7]; exact v_fro (by simp) fM6
    have h := Option.some.inj h
    subst h
    exact fM7
  · have h := Option.some.inj h
    subst h
    exact fM
theorem fv_X1_coinsOf_L4 {N : Nat} {out : Int32 × v_M} (n : Nat) : ∀ (x1 : Int32) (x2 : Int32) (x3 : Int32) (M : v_M), f_X1_coinsOf_L4 N n x1 x2 x3 M = some out → v_fr [] [] M out.2 := by
  induction n with
  | zero => intro x1 x2 x3 M h; rw [f_X1_coinsOf_L4] at h; cases h
  | succ n ih =>
    intro x1 x2 x3 M h
    have fM : v_fr [] [] M M := v_frR
    rw [f_X1_coinsOf_L4] at h
    rcases v_iteS h with ⟨c, h⟩ | ⟨c, h⟩
    · have h := Option.some.inj h
      subst h
      exact fM
    · obtain ⟨hb, h⟩ := v_ckS h
      obtain ⟨y1, ey1, h⟩ := v_ltM h
      exact v_frT fM (ih _ _ _ _ h)
theorem fw_X1_coinsOf_L4 {N n : Nat} {x1 : Int32} {x2 : Int32} {x3 : Int32} {M : v_M} {out : Int32 × v_M} (h : f_X1_coinsOf_L4 N n x1 x2 x3 M = some out) : v_fr [] [] M out.2 := fv_X1_coinsOf_L4 n x1 x2 x3 M h
theorem fr_X1_coinsOf {N : Nat} {x1 : Int32} {M : v_M} {out : Int32 × v_M} (h : f_X1_coinsOf N x1 M = some out) : v_fr [] [] M out.2 := by
  have fM : v_fr [] [] M M := v_frR
  unfold f_X1_coinsOf at h
  exact v_frT fM (fw_X1_coinsOf_L4 h)
theorem fw_X2_mostAsked_L43 {N : Nat} {x2 : Int32} {t0 : Int32} {M : v_M} {out : Int32 × v_M} (h : f_X2_mostAsked_L43 N x2 t0 M = some out) : v_fr [] [] M out.2 := by
  have fM : v_fr [] [] M M := v_frR
  unfold f_X2_mostAsked_L43 at h
  obtain ⟨hb, h⟩ := v_ckS h
  obtain ⟨hb, h⟩ := v_ckS h
  obtain ⟨hb, h⟩ := v_ckS h
  rcases v_iteS h with ⟨c, h⟩ | ⟨c, h⟩
  · have h := Option.some.inj h
    subst h
    exact fM
  · obtain ⟨hb, h⟩ := v_ckS h
    obtain ⟨hb, h⟩ := v_ckS h
    obtain ⟨y1, ey1, h⟩ := v_ltM h
    have h := Option.some.inj h
    subst h
    exact fM
theorem fw_X2_mostAsked_L25 {N : Nat} {x2 : Int32} {t0 : Int32} {M : v_M} {out : Int32 × v_M} (h : f_X2_mostAsked_L25 N x2 t0 M = some out) : v_fr [] [] M out.2 := by
  have fM : v_fr [] [] M M := v_frR
  unfold f_X2_mostAsked_L25 at h
  rcases v_iteS h with ⟨c, h⟩ | ⟨c, h⟩
  · obtain ⟨hb, h⟩ := v_ckS h
    exact v_frT fM (fw_X2_mostAsked_L43 h)
  · exact v_frT fM (fw_X2_mostAsked_L43 h)
theorem fw_X2_mostAsked_L24 {N : Nat} {x2 : Int32} {M : v_M} {out : Int32 × v_M} (h : f_X2_mostAsked_L24 N x2 M = some out) : v_fr [] [] M out.2 := by
  have fM : v_fr [] [] M M := v_frR
  unfold f_X2_mostAsked_L24 at h
  exact v_frT fM (fw_X2_mostAsked_L25 h)
theorem fr_X2_mostAsked {N : Nat} {x2 : Int32} {x3 : Int32} {M : v_M} {out : Int32 × v_M} (h : f_X2_mostAsked N x2 x3 M = some out) : v_fr [] [] M out.2 := by
  have fM : v_fr [] [] M M := v_frR
  unfold f_X2_mostAsked at h
  obtain ⟨hb, h⟩ := v_ckS h
  rcases v_iteS h with ⟨c, h⟩ | ⟨c, h⟩
  · obtain ⟨hb, h⟩ := v_ckS h
    rcases v_iteS h with ⟨c, h⟩ | ⟨c, h⟩
    · exact v_frT fM (fw_X2_mostAsked_L24 h)
    · exact v_frT fM (fw_X2_mostAsked_L25 h)
  · exact v_frT fM (fw_X2_mostAsked_L24 h)
theorem fw_X2_bend_L58 {N : Nat} {x2 : Int32} {M : v_M} {out : Int32 × v_M} {k2 : Int32 → v_M → Option (Int32 × v_M)} (hk2 : ∀ (x2 : Int32) (M : v_M), k2 x2 M = some out → v_fr [24] [] M out.2) (h : f_X2_bend_L58 N k2 x2 M = some out) : v_fr [24] [] M out.2 := by
  have fM : v_fr [24] [] M M := v_frR
  unfold f_X2_bend_L58 at h
  exact v_frT fM (hk2 _ _ h)
theorem fv_X2_bend_L2 {N : Nat} {out : Int32 × v_M} (n : Nat) : ∀ (x2 : Int32) (M : v_M), f_X2_bend_L2 N n x2 M = some out → v_fr [24] [] M out.2 := by
  induction n with
  | zero => intro x2 M h; rw [f_X2_bend_L2] at h; cases h
  | succ n ih =>
    intro x2 M h
    have fM : v_fr [24] [] M M := v_frR
    rw [f_X2_bend_L2] at h
    rcases v_iteS h with ⟨c, h⟩ | ⟨c, h⟩
    · have h := Option.some.inj h
      subst h
      exact fM
    · obtain ⟨hb, h⟩ := v_ckS h
      obtain ⟨hb, h⟩ := v_ckS h
      obtain ⟨y1, ey1, h⟩ := v_ltM h
      obtain ⟨hb, h⟩ := v_ckS h
      rcases v_iteS h with ⟨c, h⟩ | ⟨c, h⟩
      · rcases v_iteS h with ⟨c, h⟩ | ⟨c, h⟩
        · exact v_frT fM (fw_X2_bend_L58 ih h)
        · obtain ⟨hb, h⟩ := v_ckS h
          obtain ⟨hb, h⟩ := v_ckS h
          obtain ⟨M2, eM2, h⟩ := v_ltM h
          have fM2 : v_fr [24] [] M M2 := by rw [eM2]; exact v_frw (by simp) fM
          exact v_frT fM2 (fw_X2_bend_L58 ih h)
      · exact v_frT fM (fw_X2_bend_L58 ih h)
theorem fw_X2_bend_L2 {N n : Nat} {x2 : Int32} {M : v_M} {out : Int32 × v_M} (h : f_X2_bend_L2 N n x2 M = some out) : v_fr [24] [] M out.2 := fv_X2_bend_L2 n x2 M h
theorem fr_X2_bend {N : Nat} {M : v_M} {out : Int32 × v_M} (h : f_X2_bend N M = some out) : v_fr [24] [] M out.2 := by
  have fM : v_fr [24] [] M M := v_frR
  unfold f_X2_bend at h
  exact v_frT fM (fw_X2_bend_L2 h)
theorem fr_X2_lookBit {N : Nat} {x0 : Int32} {M : v_M} {out : Int32 × v_M} (h : f_X2_lookBit N x0 M = some out) : v_fr [] [] M out.2 := by
  have fM : v_fr [] [] M M := v_frR
  unfold f_X2_lookBit at h
  rcases v_iteS h with ⟨c, h⟩ | ⟨c, h⟩
  · have h := Option.some.inj h
    subst h
    exact fM
  · rcases v_iteS h with ⟨c, h⟩ | ⟨c, h⟩
    · have h := Option.some.inj h
      subst h
      exact fM
    · have h := Option.some.inj h
      subst h
      exact fM
theorem fw_X2_holdAgainst_L79 {N : Nat} {x1 : Int32} {x3 : Int32} {x4 : Int32} {x6 : Int32} {M : v_M} {out : Int32 × v_M} {k5 : Int32 → Int32 → Int32 → v_M → Option (Int32 × v_M)} (hk5 : ∀ (x1 : Int32) (x3 : Int32) (x4 : Int32) (M : v_M), k5 x1 x3 x4 M = some out → v_fr [28] [] M out.2) (h : f_X2_holdAgainst_L79 N k5 x1 x3 x4 x6 M = some out) : v_fr [28] [] M out.2 := by
  have fM : v_fr [28] [] M M := v_frR
  unfold f_X2_holdAgainst_L79 at h
  rcases v_iteS h with ⟨c, h⟩ | ⟨c, h⟩
  · have h := Option.some.inj h
    subst h
    exact fM
  · exact v_frT fM (hk5 _ _ _ _ h)
theorem fw_X2_holdAgainst_L73 {N : Nat} {x1 : Int32} {x3 : Int32} {x4 : Int32} {x5 : Int32} {x6 : Int32} {x7 : Int32} {M : v_M} {out : Int32 × v_M} {k5 : Int32 → Int32 → Int32 → v_M → Option (Int32 × v_M)} (hk5 : ∀ (x1 : Int32) (x3 : Int32) (x4 : Int32) (M : v_M), k5 x1 x3 x4 M = some out → v_fr [28] [] M out.2) {k31 : Int32 → Int32 → Int32 → Int32 → Int32 → Int32 → v_M → Option (Int32 × v_M)} (hk31 : ∀ (x1 : Int32) (x3 : Int32) (x4 : Int32) (x5 : Int32) (x6 : Int32) (x7 : Int32) (M : v_M), k31 x1 x3 x4 x5 x6 x7 M = some out → v_fr [28] [] M out.2) (h : f_X2_holdAgainst_L73 N k5 k31 x1 x3 x4 x5 x6 x7 M = some out) : v_fr [28] [] M out.2 := by
  have fM : v_fr [28] [] M M := v_frR
  unfold f_X2_holdAgainst_L73 at h
  exact v_frT fM (hk31 _ _ _ _ _ _ _ h)
theorem fv_X2_holdAgainst_L31 {N : Nat} {out : Int32 × v_M} {k5 : Int32 → Int32 → Int32 → v_M → Option (Int32 × v_M)} (hk5 : ∀ (x1 : Int32) (x3 : Int32) (x4 : Int32) (M : v_M), k5 x1 x3 x4 M = some out → v_fr [28] [] M out.2) (n : Nat) : ∀ (x1 : Int32) (x3 : Int32) (x4 : Int32) (x5 : Int32) (x6 : Int32) (x7 : Int32) (M : v_M), f_X2_holdAgainst_L31 N k5 n x1 x3 x4 x5 x6 x7 M = some out → v_fr [28] [] M out.2 := by
  induction n with
  | zero => intro x1 x3 x4 x5 x6 x7 M h; rw [f_X2_holdAgainst_L31] at h; cases h
  | succ n ih =>
    intro x1 x3 x4 x5 x6 x7 M h
    have fM : v_fr [28] [] M M := v_frR
    rw [f_X2_holdAgainst_L31] at h
    rcases v_iteS h with ⟨c, h⟩ | ⟨c, h⟩
    · exact v_frT fM (fw_X2_holdAgainst_L79 hk5 h)
    · rcases v_iteS h with ⟨c, h⟩ | ⟨c, h⟩
      · exact v_frT fM (fw_X2_holdAgainst_L79 hk5 h)
      · obtain ⟨hb, h⟩ := v_ckS h
        rcases v_iteS h with ⟨c, h⟩ | ⟨c, h⟩
        · exact v_frT fM (fw_X2_holdAgainst_L73 hk5 ih h)
        · obtain ⟨hb, h⟩ := v_ckS h
          obtain ⟨hb, h⟩ := v_ckS h
          obtain ⟨M1, eM1, h⟩ := v_ltM h
          have fM1 : v_fr [28] [] M M1 := by rw [eM1]; exact v_frw (by simp) fM
          exact v_frT fM1 (fw_X2_holdAgainst_L73 hk5 ih h)
theorem fw_X2_holdAgainst_L31 {N n : Nat} {x1 : Int32} {x3 : Int32} {x4 : Int32} {x5 : Int32} {x6 : Int32} {x7 : Int32} {M : v_M} {out : Int32 × v_M} {k5 : Int32 → Int32 → Int32 → v_M → Option (Int32 × v_M)} (hk5 : ∀ (x1 : Int32) (x3 : Int32) (x4 : Int32) (M : v_M), k5 x1 x3 x4 M = some out → v_fr [28] [] M out.2) (h : f_X2_holdAgainst_L31 N k5 n x1 x3 x4 x5 x6 x7 M = some out) : v_fr [28] [] M out.2 := fv_X2_holdAgainst_L31 hk5 n x1 x3 x4 x5 x6 x7 M h
theorem fv_X2_holdAgainst_L5 {N : Nat} {out : Int32 × v_M} (n : Nat) : ∀ (x1 : Int32) (x3 : Int32) (x4 : Int32) (M : v_M), f_X2_holdAgainst_L5 N n x1 x3 x4 M = some out → v_fr [28] [] M out.2 := by
  induction n with
  | zero => intro x1 x3 x4 M h; rw [f_X2_holdAgainst_L5] at h; cases h
  | succ n ih =>
    intro x1 x3 x4 M h
    have fM : v_fr [28] [] M M := v_frR
    rw [f_X2_holdAgainst_L5] at h
    rcases v_iteS h with ⟨c, h⟩ | ⟨c, h⟩
    · have h := Option.some.inj h
      subst h
      exact fM
    · rcases v_iteS h with ⟨c, h⟩ | ⟨c, h⟩
      · have h := Option.some.inj h
        subst h
        exact fM
      · obtain ⟨hb, h⟩ := v_ckS h
        obtain ⟨y1, ey1, h⟩ := v_ltM h
        exact v_frT fM (fw_X2_holdAgainst_L31 ih h)
theorem fw_X2_holdAgainst_L5 {N n : Nat} {x1 : Int32} {x3 : Int32} {x4 : Int32} {M : v_M} {out : Int32 × v_M} (h : f_X2_holdAgainst_L5 N n x1 x3 x4 M = some out) : v_fr [28] [] M out.2 := fv_X2_holdAgainst_L5 n x1 x3 x4 M h
theorem fr_X2_holdAgainst {N : Nat} {x1 : Int32} {x2 : Int32} {M : v_M} {out : Int32 × v_M} (h : f_X2_holdAgainst N x1 x2 M = some out) : v_fr [28] [] M out.2 := by
  have fM : v_fr [28] [] M M := v_frR
  unfold f_X2_holdAgainst at h
  exact v_frT fM (fw_X2_holdAgainst_L5 h)
theorem fr_X3_add {N : Nat} {x1 : Int32} {x2 : Int32} {x3 : Int32} {x4 : Int32} {x5 : Int32} {x6 : Int32} {x7 : Int32} {M : v_M} {out : Int32 × v_M} (h : f_X3_add N x1 x2 x3 x4 x5 x6 x7 M = some out) : v_fr [2, 3, 4, 5, 6, 7, 8, 9] [(1, 0)] M out.2 := by
  have fM : v_fr [2, 3, 4, 5, 6, 7, 8, 9] [(1, 0)] M M := v_frR
  unfold f_X3_add at h
  rcases v_iteS h with ⟨c, h⟩ | ⟨c, h⟩
  · obtain ⟨y1, ey1, h⟩ := v_ltM h
    obtain ⟨hb, h⟩ := v_ckS h
    obtain ⟨M2, eM2, h⟩ := v_ltM h
    have fM2 : v_fr [2, 3, 4, 5, 6, 7, 8, 9] [(1, 0)] M M2 := by rw [eM2]; exact v_frw (by simp) fM
    obtain ⟨hb, h⟩ := v_ckS h
    obtain ⟨M3, eM3, h⟩ := v_ltM h
    have fM3 : v_fr [2, 3, 4, 5, 6, 7, 8, 9] [(1, 0)] M M3 := by rw [eM3]; exact v_frw (by simp) fM2
    obtain ⟨hb, h⟩ := v_ckS h
    obtain ⟨M4, eM4, h⟩ := v_ltM h
    have fM4 : v_fr [2, 3, 4, 5, 6, 7, 8, 9] [(1, 0)] M M4 := by rw [eM4]; exact v_frw (by simp) fM3
    obtain ⟨hb, h⟩ := v_ckS h
    obtain ⟨hb, h⟩ := v_ckS h
    obtain ⟨M5, eM5, h⟩ := v_ltM h
    have fM5 : v_fr [2, 3, 4, 5, 6, 7, 8, 9] [(1, 0)] M M5 := by rw [eM5]; exact v_frw (by simp) fM4
    obtain ⟨hb, h⟩ := v_ckS h
    obtain ⟨hb, h⟩ := v_ckS h
    obtain ⟨M6, eM6, h⟩ := v_ltM h
    have fM6 : v_fr [2, 3, 4, 5, 6, 7, 8, 9] [(1, 0)] M M6 := by rw [eM6]; exact v_frw (by simp) fM5
    obtain ⟨hb, h⟩ := v_ckS h
    obtain ⟨M7, eM7, h⟩ := v_ltM h
    have fM7 : v_fr [2, 3, 4, 5, 6, 7, 8, 9] [(1, 0)] M M7 := by rw [eM7]; exact v_frw (by simp) fM6
    obtain ⟨hb, h⟩ := v_ckS h
    obtain ⟨M8, eM8, h⟩ := v_ltM h
    have fM8 : v_fr [2, 3, 4, 5, 6, 7, 8, 9] [(1, 0)] M M8 := by rw [eM8]; exact v_frw (by simp) fM7
    obtain ⟨hb, h⟩ := v_ckS h
    obtain ⟨M9, eM9, h⟩ := v_ltM h
    have fM9 : v_fr [2, 3, 4, 5, 6, 7, 8, 9] [(1, 0)] M M9 := by rw [eM9]; exact v_frw (by simp) fM8
    obtain ⟨M10, eM10, h⟩ := v_ltM h
    have fM10 : v_fr [2, 3, 4, 5, 6, 7, 8, 9] [(1, 0)] M M10 := by rw [eM10]; exact v_fro (by simp) fM9
    have h := Option.some.inj h
    subst h
    exact fM10
  · have h := Option.some.inj h
    subst h
    exact fM
theorem fr_X4_spot {N : Nat} {x0 : Int32} {x1 : Int32} {M : v_M} {out : Int32 × v_M} (h : f_X4_spot N x0 x1 M = some out) : v_fr [] [] M out.2 := by
  have fM : v_fr [] [] M M := v_frR
  unfold f_X4_spot at h
  have h := Option.some.inj h
  subst h
  exact fM
theorem fr_X4_add {N : Nat} {q0 : Nat} {M : v_M} {out : Int32 × v_M} (h : f_X4_add N q0 M = some out) : v_fr [] [(q0, 0)] M out.2 := by
  have fM : v_fr [] [(q0, 0)] M M := v_frR
  unfold f_X4_add at h
  rcases v_iteS h with ⟨c, h⟩ | ⟨c, h⟩
  · obtain ⟨M1, eM1, h⟩ := v_ltM h
    have fM1 : v_fr [] [(q0, 0)] M M1 := by rw [eM1]; exact v_fro (by simp) fM
    have h := Option.some.inj h
    subst h
    exact fM1
  · have h := Option.some.inj h
    subst h
    exact fM
theorem fr_X4_become {N : Nat} {q0 : Nat} {q1 : Nat} {M : v_M} {out : Int32 × v_M} (h : f_X4_become N q0 q1 M = some out) : v_fr [(q0 + 1), (q0 + 2), (q0 + 3), (q0 + 4), (q0 + 5), (q0 + 6)] [(q0, 0)] M out.2 := by
  have fM : v_fr [(q0 + 1), (q0 + 2), (q0 + 3), (q0 + 4), (q0 + 5), (q0 + 6)] [(q0, 0)] M M := v_frR
  unfold f_X4_become at h
  obtain ⟨M1, eM1, h⟩ := v_ltM h
  have fM1 : v_fr [(q0 + 1), (q0 + 2), (q0 + 3), (q0 + 4), (q0 + 5), (q0 + 6)] [(q0, 0)] M M1 := by rw [eM1]; exact v_fro (by simp) fM
  obtain ⟨hb, h⟩ := v_ckS h
  obtain ⟨M2, eM2, h⟩ := v_ltM h
  have fM2 : v_fr [(q0 + 1), (q0 + 2), (q0 + 3), (q0 + 4), (q0 + 5), (q0 + 6)] [(q0, 0)] M M2 := by rw [eM2]; exact v_frr (by simp) fM1
  obtain ⟨hb, h⟩ := v_ckS h
  obtain ⟨M3, eM3, h⟩ := v_ltM h
  have fM3 : v_fr [(q0 + 1), (q0 + 2), (q0 + 3), (q0 + 4), (q0 + 5), (q0 + 6)] [(q0, 0)] M M3 := by rw [eM3]; exact v_frr (by simp) fM2
  obtain ⟨hb, h⟩ := v_ckS h
  obtain ⟨M4, eM4, h⟩ := v_ltM h
  have fM4 : v_fr [(q0 + 1), (q0 + 2), (q0 + 3), (q0 + 4), (q0 + 5), (q0 + 6)] [(q0, 0)] M M4 := by rw [eM4]; exact v_frr (by simp) fM3
  obtain ⟨hb, h⟩ := v_ckS h
  obtain ⟨M5, eM5, h⟩ := v_ltM h
  have fM5 : v_fr [(q0 + 1), (q0 + 2), (q0 + 3), (q0 + 4), (q0 + 5), (q0 + 6)] [(q0, 0)] M M5 := by rw [eM5]; exact v_frr (by simp) fM4
  obtain ⟨hb, h⟩ := v_ckS h
  obtain ⟨M6, eM6, h⟩ := v_ltM h
  have fM6 : v_fr [(q0 + 1), (q0 + 2), (q0 + 3), (q0 + 4), (q0 + 5), (q0 + 6)] [(q0, 0)] M M6 := by rw [eM6]; exact v_frr (by simp) fM5
  obtain ⟨hb, h⟩ := v_ckS h
  obtain ⟨M7, eM7, h⟩ := v_ltM h
  have fM7 : v_fr [(q0 + 1), (q0 + 2), (q0 + 3), (q0 + 4), (q0 + 5), (q0 + 6)] [(q0, 0)] M M7 := by rw [eM7]; exact v_frr (by simp) fM6
  have h := Option.some.inj h
  subst h
  exact fM7
theorem fr_X5_clear {N : Nat} {q0 : Nat} {M : v_M} {out : Int32 × v_M} (h : f_X5_clear N q0 M = some out) : v_fr [] [(q0, 2), (q0, 3)] M out.2 := by
  have fM : v_fr [] [(q0, 2), (q0, 3)] M M := v_frR
  unfold f_X5_clear at h
  obtain ⟨M1, eM1, h⟩ := v_ltM h
  have fM1 : v_fr [] [(q0, 2), (q0, 3)] M M1 := by rw [eM1]; exact v_fro (by simp) fM
  obtain ⟨M2, eM2, h⟩ := v_ltM h
  have fM2 : v_fr [] [(q0, 2), (q0, 3)] M M2 := by rw [eM2]; exact v_fro (by simp) fM1
  have h := Option.some.inj h
  subst h
  exact fM2
theorem fr_X5_emit {N : Nat} {q0 : Nat} {x1 : Int32} {M : v_M} {out : Int32 × v_M} (h : f_X5_emit N q0 x1 M = some out) : v_fr [(q0 + 6)] [(q0, 3)] M out.2 := by
  have fM : v_fr [(q0 + 6)] [(q0, 3)] M M := v_frR
  unfold f_X5_emit at h
  rcases v_iteS h with ⟨c, h⟩ | ⟨c, h⟩
  · have h := Option.some.inj h
    subst h
    exact fM
  · obtain ⟨hb, h⟩ := v_ckS h
    obtain ⟨M1, eM1, h⟩ := v_ltM h
    have fM1 : v_fr [(q0 + 6)] [(q0, 3)] M M1 := by rw [eM1]; exact v_frw (by simp) fM
    obtain ⟨M2, eM2, h⟩ := v_ltM h
    have fM2 : v_fr [(q0 + 6)] [(q0, 3)] M M2 := by rw [eM2]; exact v_fro (by simp) fM1
    have h := Option.some.inj h
    subst h
    exact fM2
theorem fr_X6_add {N : Nat} {x1 : Int32} {x2 : Int32} {x3 : Int32} {M : v_M} {out : Int32 × v_M} (h : f_X6_add N x1 x2 x3 M = some out) : v_fr [72, 73, 75] [(71, 0)] M out.2 := by
  have fM : v_fr [72, 73, 75] [(71, 0)] M M := v_frR
  unfold f_X6_add at h
  rcases v_iteS h with ⟨c, h⟩ | ⟨c, h⟩
  · obtain ⟨y1, ey1, h⟩ := v_ltM h
    obtain ⟨hb, h⟩ := v_ckS h
    obtain ⟨M2, eM2, h⟩ := v_ltM h
    have fM2 : v_fr [72, 73, 75] [(71, 0)] M M2 := by rw [eM2]; exact v_frw (by simp) fM
    obtain ⟨hb, h⟩ := v_ckS h
    obtain ⟨M3, eM3, h⟩ := v_ltM h
    have fM3 : v_fr [72, 73, 75] [(71, 0)] M M3 := by rw [eM3]; exact v_frw (by simp) fM2
    obtain ⟨hb, h⟩ := v_ckS h
    obtain ⟨M4, eM4, h⟩ := v_ltM h
    have fM4 : v_fr [72, 73, 75] [(71, 0)] M M4 := by rw [eM4]; exact v_frw (by simp) fM3
    obtain ⟨M5, eM5, h⟩ := v_ltM h
    have fM5 : v_fr [72, 73, 75] [(71, 0)] M M5 := by rw [eM5]; exact v_fro (by simp) fM4
    have h := Option.some.inj h
    subst h
    exact fM5
  · have h := Option.some.inj h
    subst h
    exact fM
theorem fw_X6_warnsOf_L32 {N : Nat} {x1 : Int32} {x2 : Int32} {x3 : Int32} {M : v_M} {out : Int32 × v_M} {k2 : Int32 → Int32 → Int32 → v_M → Option (Int32 × v_M)} (hk2 : ∀ (x1 : Int32) (x2 : Int32) (x3 : Int32) (M : v_M), k2 x1 x2 x3 M = some out → v_fr [] [] M out.2) (h : f_X6_warnsOf_L32 N k2 x1 x2 x3 M = some out) : v_fr [] [] M out.2 := by
  have fM : v_fr [] [] M M := v_frR
  unfold f_X6_warnsOf_L32 at h
  exact v_frT fM (hk2 _ _ _ _ h)
theorem fv_X6_warnsOf_L2 {N : Nat} {out : Int32 × v_M} (n : Nat) : ∀ (x1 : Int32) (x2 : Int32) (x3 : Int32) (M : v_M), f_X6_warnsOf_L2 N n x1 x2 x3 M = some out → v_fr [] [] M out.2 := by
  induction n with
  | zero => intro x1 x2 x3 M h; rw [f_X6_warnsOf_L2] at h; cases h
  | succ n ih =>
    intro x1 x2 x3 M h
    have fM : v_fr [] [] M M := v_frR
    rw [f_X6_warnsOf_L2] at h
    rcases v_iteS h with ⟨c, h⟩ | ⟨c, h⟩
    · obtain ⟨hb, h⟩ := v_ckS h
      have h := Option.some.inj h
      subst h
      exact fM
    · obtain ⟨hb, h⟩ := v_ckS h
      rcases v_iteS h with ⟨c, h⟩ | ⟨c, h⟩
      · obtain ⟨hb, h⟩ := v_ckS h
        rcases v_iteS h with ⟨c, h⟩ | ⟨c, h⟩
        · exact v_frT fM (fw_X6_warnsOf_L32 ih h)
        · obtain ⟨hb, h⟩ := v_ckS h
          have h := Option.some.inj h
          subst h
          exact fM
      · exact v_frT fM (fw_X6_warnsOf_L32 ih h)
theorem fw_X6_warnsOf_L2 {N n : Nat} {x1 : Int32} {x2 : Int32} {x3 : Int32} {M : v_M} {out : Int32 × v_M} (h : f_X6_warnsOf_L2 N n x1 x2 x3 M = some out) : v_fr [] [] M out.2 := fv_X6_warnsOf_L2 n x1 x2 x3 M h
theorem fr_X6_warnsOf {N : Nat} {x1 : Int32} {x2 : Int32} {M : v_M} {out : Int32 × v_M} (h : f_X6_warnsOf N x1 x2 M = some out) : v_fr [] [] M out.2 := by
  have fM : v_fr [] [] M M := v_frR
  unfold f_X6_warnsOf at h
  exact v_frT fM (fw_X6_warnsOf_L2 h)
theorem fw_X6_forgetFrom_L27 {N : Nat} {x1 : Int32} {x2 : Int32} {M : v_M} {out : Int32 × v_M} {k2 : Int32 → Int32 → v_M → Option (Int32 × v_M)} (hk2 : ∀ (x1 : Int32) (x2 : Int32) (M : v_M), k2 x1 x2 M = some out → v_fr [72] [] M out.2) (h : f_X6_forgetFrom_L27 N k2 x1 x2 M = some out) : v_fr [72] [] M out.2 := by
  have fM : v_fr [72] [] M M := v_frR
  unfold f_X6_forgetFrom_L27 at h
  exact v_frT fM (hk2 _ _ _ h)
theorem fv_X6_forgetFrom_L2 {N : Nat} {out : Int32 × v_M} (n : Nat) : ∀ (x1 : Int32) (x2 : Int32) (M : v_M), f_X6_forgetFrom_L2 N n x1 x2 M = some out → v_fr [72] [] M out.2 := by
  induction n with
  | zero => intro x1 x2 M h; rw [f_X6_forgetFrom_L2] at h; cases h
  | succ n ih =>
    intro x1 x2 M h
    have fM : v_fr [72] [] M M := v_frR
    rw [f_X6_forgetFrom_L2] at h
    rcases v_iteS h with ⟨c, h⟩ | ⟨c, h⟩
    · have h := Option.some.inj h
      subst h
      exact fM
    · obtain ⟨hb, h⟩ := v_ckS h
      rcases v_iteS h with ⟨c, h⟩ | ⟨c, h⟩
      · exact v_frT fM (fw_X6_forgetFrom_L27 ih h)
      · obtain ⟨hb, h⟩ := v_ckS h
        obtain ⟨M1, eM1, h⟩ := v_ltM h
        have fM1 : v_fr [72] [] M M1 := by rw [eM1]; exact v_frw (by simp) fM
        exact v_frT fM1 (fw_X6_forgetFrom_L27 ih h)
theorem fw_X6_forgetFrom_L2 {N n : Nat} {x1 : Int32} {x2 : Int32} {M : v_M} {out : Int32 × v_M} (h : f_X6_forgetFrom_L2 N n x1 x2 M = some out) : v_fr [72] [] M out.2 := fv_X6_forgetFrom_L2 n x1 x2 M h
theorem fr_X6_forgetFrom {N : Nat} {x1 : Int32} {M : v_M} {out : Int32 × v_M} (h : f_X6_forgetFrom N x1 M = some out) : v_fr [72] [] M out.2 := by
  have fM : v_fr [72] [] M M := v_frR
  unfold f_X6_forgetFrom at h
  exact v_frT fM (fw_X6_forgetFrom_L2 h)
theorem fr_X7_fail {N : Nat} {x1 : Int32} {M : v_M} {out : Int32 × v_M} (h : f_X7_fail N x1 M = some out) : v_fr [] [(35, 6)] M out.2 := by
  have fM : v_fr [] [(35, 6)] M M := v_frR
  unfold f_X7_fail at h
  obtain ⟨hb, h⟩ := v_ckS h
  obtain ⟨M1, eM1, h⟩ := v_ltM h
  have fM1 : v_fr [] [(35, 6)] M M1 := by rw [eM1]; exact v_fro (by simp) fM
  obtain ⟨hb, h⟩ := v_ckS h
  have h := Option.some.inj h
  subst h
  exact fM1
theorem fw_X7_step_L48 {N : Nat} {M : v_M} {out : Int32 × v_M} (h : f_X7_step_L48 N M = some out) : v_fr [] [(35, 2), (35, 3), (35, 4)] M out.2 := by
  have fM : v_fr [] [(35, 2), (35, 3), (35, 4)] M M := v_frR
  unfold f_X7_step_L48 at h
  obtain ⟨hb, h⟩ := v_ckS h
  obtain ⟨M1, eM1, h⟩ := v_ltM h
  have fM1 : v_fr [] [(35, 2), (35, 3), (35, 4)] M M1 := by rw [eM1]; exact v_fro (by simp) fM
  obtain ⟨hb, h⟩ := v_ckS h
  obtain ⟨M2, eM2, h⟩ := v_ltM h
  have fM2 : v_fr [] [(35, 2), (35, 3), (35, 4)] M M2 := by rw [eM2]; exact v_fro (by simp) fM1
  have h := Option.some.inj h
  subst h
  exact fM2
theorem fw_X7_step_L36 {N : Nat} {M : v_M} {out : Int32 × v_M} (h : f_X7_step_L36 N M = some out) : v_fr [] [(35, 2), (35, 3), (35, 4)] M out.2 := by
  have fM : v_fr [] [(35, 2), (35, 3), (35, 4)] M M := v_frR
  unfold f_X7_step_L36 at h
  rcases v_iteS h with ⟨c, h⟩ | ⟨c, h⟩
  · exact v_frT fM (fw_X7_step_L48 h)
  · obtain ⟨M1, eM1, h⟩ := v_ltM h
    have fM1 : v_fr [] [(35, 2), (35, 3), (35, 4)] M M1 := by rw [eM1]; exact v_fro (by simp) fM
    exact v_frT fM1 (fw_X7_step_L48 h)
theorem fr_X7_step {N : Nat} {M : v_M} {out : Int32 × v_M} (h : f_X7_step N M = some out) : v_fr [] [(35, 2), (35, 3), (35, 4)] M out.2 := by
  have fM : v_fr [] [(35, 2), (35, 3), (35, 4)] M M := v_frR
  unfold f_X7_step at h
  rcases v_iteS h with ⟨c, h⟩ | ⟨c, h⟩
  · exact v_frT fM (fw_X7_step_L36 h)
  · rcases v_iteS h with ⟨c, h⟩ | ⟨c, h⟩
    · exact v_frT fM (fw_X7_step_L36 h)
    · obtain ⟨M1, eM1, h⟩ := v_ltM h
      have fM1 : v_fr [] [(35, 2), (35, 3), (35, 4)] M M1 := by rw [eM1]; exact v_fro (by simp) fM
      exact v_frT fM1 (fw_X7_step_L36 h)
theorem fw_X7_readTest_L125 {N : Nat} {qo : Nat} {rf : Int32 → v_M → Option (Int32 × v_M)} {x2 : Int32} {M : v_M} {out : Int32 × v_M} (hrf : ∀ (x : Int32) (M : v_M) (out : Int32 × v_M), rf x M = some out → v_fr [(qo + 6)] [(35, 2), (35, 3), (35, 4), (35, 5), (35, 6), (qo, 3)] M out.2) (h : f_X7_readTest_L125 N qo rf x2 M = some out) : v_fr [(qo + 6)] [(35, 2), (35, 3), (35, 4), (35, 5), (35, 6), (qo, 3)] M out.2 := by
  have fM : v_fr [(qo + 6)] [(35, 2), (35, 3), (35, 4), (35, 5), (35, 6), (qo, 3)] M M := v_frR
  unfold f_X7_readTest_L125 at h
  rcases v_iteS h with ⟨c, h⟩ | ⟨c, h⟩
  · obtain ⟨hb, h⟩ := v_ckS h
    have h := Option.some.inj h
    subst h
    exact fM
  · obtain ⟨z1, hz1, h⟩ := v_bdS h
    have fz1 : v_fr [(qo + 6)] [(35, 2), (35, 3), (35, 4), (35, 5), (35, 6), (qo, 3)] M z1.2 := v_frt (by simp) (by simp) fM (fr_X5_emit hz1)
    obtain ⟨hb, h⟩ := v_ckS h
    have h := Option.some.inj h
    subst h
    exact fz1
theorem fw_X7_readTest_L119 {N : Nat} {qo : Nat} {rf : Int32 → v_M → Option (Int32 × v_M)} {x1 : Int32} {x2 : Int32} {x3 : Int32} {M : v_M} {out : Int32 × v_M} (hrf : ∀ (x : Int32) (M : v_M) (out : Int32 × v_M), rf x M = some out → v_fr [(qo + 6)] [(35, 2), (35, 3), (35, 4), (35, 5), (35, 6), (qo, 3)] M out.2) {k14 : Int32 → Int32 → Int32 → v_M → Option (Int32 × v_M)} (hk14 : ∀ (x1 : Int32) (x2 : Int32) (x3 : Int32) (M : v_M), k14 x1 x2 x3 M = some out → v_fr [(qo + 6)] [(35, 2), (35, 3), (35, 4), (35, 5), (35, 6), (qo, 3)] M out.2) (h : f_X7_readTest_L119 N qo rf k14 x1 x2 x3 M = some out) : v_fr [(qo + 6)] [(35, 2), (35, 3), (35, 4), (35, 5), (35, 6), (qo, 3)] M out.2 := by
  have fM : v_fr [(qo + 6)] [(35, 2), (35, 3), (35, 4), (35, 5), (35, 6), (qo, 3)] M M := v_frR
  unfold f_X7_readTest_L119 at h
  exact v_frT fM (hk14 _ _ _ _ h)
theorem fw_X7_readTest_L90 {N : Nat} {qo : Nat} {rf : Int32 → v_M → Option (Int32 × v_M)} {x1 : Int32} {x3 : Int32} {x4 : Int32} {t0 : Int32} {M : v_M} {out : Int32 × v_M} (hrf : ∀ (x : Int32) (M : v_M) (out : Int32 × v_M), rf x M = some out → v_fr [(qo + 6)] [(35, 2), (35, 3), (35, 4), (35, 5), (35, 6), (qo, 3)] M out.2) {k14 : Int32 → Int32 → Int32 → v_M → Option (Int32 × v_M)} (hk14 : ∀ (x1 : Int32) (x2 : Int32) (x3 : Int32) (M : v_M), k14 x1 x2 x3 M = some out → v_fr [(qo + 6)] [(35, 2), (35, 3), (35, 4), (35, 5), (35, 6), (qo, 3)] M out.2) (h : f_X7_readTest_L90 N qo rf k14 x1 x3 x4 t0 M = some out) : v_fr [(qo + 6)] [(35, 2), (35, 3), (35, 4), (35, 5), (35, 6), (qo, 3)] M out.2 := by
  have fM : v_fr [(qo + 6)] [(35, 2), (35, 3), (35, 4), (35, 5), (35, 6), (qo, 3)] M M := v_frR
  unfold f_X7_readTest_L90 at h
  obtain ⟨z1, hz1, h⟩ := v_bdS h
  have fz1 : v_fr [(qo + 6)] [(35, 2), (35, 3), (35, 4), (35, 5), (35, 6), (qo, 3)] M z1.2 := v_frt (by simp) (by simp) fM (fr_X7_step hz1)
  obtain ⟨z2, hz2, h⟩ := v_bdS h
  have fz2 : v_fr [(qo + 6)] [(35, 2), (35, 3), (35, 4), (35, 5), (35, 6), (qo, 3)] M z2.2 := v_frt (by simp) (by simp) fz1 (hrf _ _ _ hz2)
  rcases v_iteS h with ⟨c, h⟩ | ⟨c, h⟩
  · obtain ⟨hb, h⟩ := v_ckS h
    have h := Option.some.inj h
    subst h
    exact fz2
  · rcases v_iteS h with ⟨c, h⟩ | ⟨c, h⟩
    · exact v_frT fz2 (fw_X7_readTest_L119 hrf hk14 h)
    · obtain ⟨z3, hz3, h⟩ := v_bdS h
      have fz3 : v_fr [(qo + 6)] [(35, 2), (35, 3), (35, 4), (35, 5), (35, 6), (qo, 3)] M z3.2 := v_frt (by simp) (by simp) fz2 (fr_X5_emit hz3)
      exact v_frT fz3 (fw_X7_readTest_L119 hrf hk14 h)
theorem fw_X7_readTest_L85 {N : Nat} {qo : Nat} {rf : Int32 → v_M → Option (Int32 × v_M)} {x1 : Int32} {x3 : Int32} {x4 : Int32} {M : v_M} {out : Int32 × v_M} (hrf : ∀ (x : Int32) (M : v_M) (out : Int32 × v_M), rf x M = some out → v_fr [(qo + 6)] [(35, 2), (35, 3), (35, 4), (35, 5), (35, 6), (qo, 3)] M out.2) {k14 : Int32 → Int32 → Int32 → v_M → Option (Int32 × v_M)} (hk14 : ∀ (x1 : Int32) (x2 : Int32) (x3 : Int32) (M : v_M), k14 x1 x2 x3 M = some out → v_fr [(qo + 6)] [(35, 2), (35, 3), (35, 4), (35, 5), (35, 6), (qo, 3)] M out.2) (h : f_X7_readTest_L85 N qo rf k14 x1 x3 x4 M = some out) : v_fr [(qo + 6)] [(35, 2), (35, 3), (35, 4), (35, 5), (35, 6), (qo, 3)] M out.2 := by
  have fM : v_fr [(qo + 6)] [(35, 2), (35, 3), (35, 4), (35, 5), (35, 6), (qo, 3)] M M := v_frR
  unfold f_X7_readTest_L85 at h
  exact v_frT fM (fw_X7_readTest_L90 hrf hk14 h)
theorem fw_X7_readTest_L76 {N : Nat} {qo : Nat} {rf : Int32 → v_M → Option (Int32 × v_M)} {x1 : Int32} {x2 : Int32} {x3 : Int32} {x4 : Int32} {M : v_M} {out : Int32 × v_M} (hrf : ∀ (x : Int32) (M : v_M) (out : Int32 × v_M), rf x M = some out → v_fr [(qo + 6)] [(35, 2), (35, 3), (35, 4), (35, 5), (35, 6), (qo, 3)] M out.2) {k14 : Int32 → Int32 → Int32 → v_M → Option (Int32 × v_M)} (hk14 : ∀ (x1 : Int32) (x2 : Int32) (x3 : Int32) (M : v_M), k14 x1 x2 x3 M = some out → v_fr [(qo + 6)] [(35, 2), (35, 3), (35, 4), (35, 5), (35, 6), (qo, 3)] M out.2) (h : f_X7_readTest_L76 N qo rf k14 x1 x2 x3 x4 M = some out) : v_fr [(qo + 6)] [(35, 2), (35, 3), (35, 4), (35, 5), (35, 6), (qo, 3)] M out.2 := by
  have fM : v_fr [(qo + 6)] [(35, 2), (35, 3), (35, 4), (35, 5), (35, 6), (qo, 3)] M M := v_frR
  unfold f_X7_readTest_L76 at h
  rcases v_iteS h with ⟨c, h⟩ | ⟨c, h⟩
  · rcases v_iteS h with ⟨c, h⟩ | ⟨c, h⟩
    · exact v_frT fM (fw_X7_readTest_L85 hrf hk14 h)
    · exact v_frT fM (fw_X7_readTest_L90 hrf hk14 h)
  · exact v_frT fM (fw_X7_readTest_L85 hrf hk14 h)
theorem fw_X7_readTest_L56 {N : Nat} {qo : Nat} {rf : Int32 → v_M → Option (Int32 × v_M)} {x1 : Int32} {x2 : Int32} {x3 : Int32} {t0 : Int32} {M : v_M} {out : Int32 × v_M} (hrf : ∀ (x : Int32) (M : v_M) (out : Int32 × v_M), rf x M = some out → v_fr [(qo + 6)] [(35, 2), (35, 3), (35, 4), (35, 5), (35, 6), (qo, 3)] M out.2) {k14 : Int32 → Int32 → Int32 → v_M → Option (Int32 × v_M)} (hk14 : ∀ (x1 : Int32) (x2 : Int32) (x3 : Int32) (M : v_M), k14 x1 x2 x3 M = some out → v_fr [(qo + 6)] [(35, 2), (35, 3), (35, 4), (35, 5), (35, 6), (qo, 3)] M out.2) (h : f_X7_readTest_L56 N qo rf k14 x1 x2 x3 t0 M = some out) : v_fr [(qo + 6)] [(35, 2), (35, 3), (35, 4), (35, 5), (35, 6), (qo, 3)] M out.2 := by
  have fM : v_fr [(qo + 6)] [(35, 2), (35, 3), (35, 4), (35, 5), (35, 6), (qo, 3)] M M := v_frR
  unfold f_X7_readTest_L56 at h
  rcases v_iteS h with ⟨c, h⟩ | ⟨c, h⟩
  · rcases v_iteS h with ⟨c, h⟩ | ⟨c, h⟩
    · exact v_frT fM (fw_X7_readTest_L76 hrf hk14 h)
    · obtain ⟨z1, hz1, h⟩ := v_bdS h
      have fz1 : v_fr [(qo + 6)] [(35, 2), (35, 3), (35, 4), (35, 5), (35, 6), (qo, 3)] M z1.2 := v_frt (by simp) (by simp) fM (fr_X5_emit hz1)
      exact v_frT fz1 (fw_X7_readTest_L76 hrf hk14 h)
  · exact v_frT fM (fw_X7_readTest_L76 hrf hk14 h)
theorem fw_X7_readTest_L41 {N : Nat} {qo : Nat} {rf : Int32 → v_M → Option (Int32 × v_M)} {x1 : Int32} {x2 : Int32} {x3 : Int32} {M : v_M} {out : Int32 × v_M} (hrf : ∀ (x : Int32) (M : v_M) (out : Int32 × v_M), rf x M = some out → v_fr [(qo + 6)] [(35, 2), (35, 3), (35, 4), (35, 5), (35, 6), (qo, 3)] M out.2) {k14 : Int32 → Int32 → Int32 → v_M → Option (Int32 × v_M)} (hk14 : ∀ (x1 : Int32) (x2 : Int32) (x3 : Int32) (M : v_M), k14 x1 x2 x3 M = some out → v_fr [(qo + 6)] [(35, 2), (35, 3), (35, 4), (35, 5), (35, 6), (qo, 3)] M out.2) (h : f_X7_readTest_L41 N qo rf k14 x1 x2 x3 M = some out) : v_fr [(qo + 6)] [(35, 2), (35, 3), (35, 4), (35, 5), (35, 6), (qo, 3)] M out.2 := by
  have fM : v_fr [(qo + 6)] [(35, 2), (35, 3), (35, 4), (35, 5), (35, 6), (qo, 3)] M M := v_frR
  unfold f_X7_readTest_L41 at h
  rcases v_iteS h with ⟨c, h⟩ | ⟨c, h⟩
  · exact v_frT fM (fw_X7_readTest_L56 hrf hk14 h)
  · exact v_frT fM (fw_X7_readTest_L56 hrf hk14 h)
theorem fv_X7_readTest_L14 {N : Nat} {qo : Nat} {rf : Int32 → v_M → Option (Int32 × v_M)} {out : Int32 × v_M} (hrf : ∀ (x : Int32) (M : v_M) (out : Int32 × v_M), rf x M = some out → v_fr [(qo + 6)] [(35, 2), (35, 3), (35, 4), (35, 5), (35, 6), (qo, 3)] M out.2) (n : Nat) : ∀ (x1 : Int32) (x2 : Int32) (x3 : Int32) (M : v_M), f_X7_readTest_L14 N qo rf n x1 x2 x3 M = some out → v_fr [(qo + 6)] [(35, 2), (35, 3), (35, 4), (35, 5), (35, 6), (qo, 3)] M out.2 := by
  induction n with
  | zero => intro x1 x2 x3 M h; rw [f_X7_readTest_L14] at h; cases h
  | succ n ih =>
    intro x1 x2 x3 M h
    have fM : v_fr [(qo + 6)] [(35, 2), (35, 3), (35, 4), (35, 5), (35, 6), (qo, 3)] M M := v_frR
    rw [f_X7_readTest_L14] at h
    rcases v_iteS h with ⟨c, h⟩ | ⟨c, h⟩
    · exact v_frT fM (fw_X7_readTest_L125 hrf h)
    · rcases v_iteS h with ⟨c, h⟩ | ⟨c, h⟩
      · exact v_frT fM (fw_X7_readTest_L41 hrf ih h)
      · rcases v_iteS h with ⟨c, h⟩ | ⟨c, h⟩
        · exact v_frT fM (fw_X7_readTest_L41 hrf ih h)
        · exact v_frT fM (fw_X7_readTest_L125 hrf h)
theorem fw_X7_readTest_L14 {N n : Nat} {qo : Nat} {rf : Int32 → v_M → Option (Int32 × v_M)} {x1 : Int32} {x2 : Int32} {x3 : Int32} {M : v_M} {out : Int32 × v_M} (hrf : ∀ (x : Int32) (M : v_M) (out : Int32 × v_M), rf x M = some out → v_fr [(qo + 6)] [(35, 2), (35, 3), (35, 4), (35, 5), (35, 6), (qo, 3)] M out.2) (h : f_X7_readTest_L14 N qo rf n x1 x2 x3 M = some out) : v_fr [(qo + 6)] [(35, 2), (35, 3), (35, 4), (35, 5), (35, 6), (qo, 3)] M out.2 := fv_X7_readTest_L14 hrf n x1 x2 x3 M h
theorem fr_X7_readTest {N : Nat} {qo : Nat} {rf : Int32 → v_M → Option (Int32 × v_M)} {x1 : Int32} {M : v_M} {out : Int32 × v_M} (hrf : ∀ (x : Int32) (M : v_M) (out : Int32 × v_M), rf x M = some out → v_fr [(qo + 6)] [(35, 2), (35, 3), (35, 4), (35, 5), (35, 6), (qo, 3)] M out.2) (h : f_X7_readTest N qo rf x1 M = some out) : v_fr [(qo + 6)] [(35, 2), (35, 3), (35, 4), (35, 5), (35, 6), (qo, 3)] M out.2 := by
  have fM : v_fr [(qo + 6)] [(35, 2), (35, 3), (35, 4), (35, 5), (35, 6), (qo, 3)] M M := v_frR
  unfold f_X7_readTest at h
  obtain ⟨z1, hz1, h⟩ := v_bdS h
  have fz1 : v_fr [(qo + 6)] [(35, 2), (35, 3), (35, 4), (35, 5), (35, 6), (qo, 3)] M z1.2 := v_frt (by simp) (by simp) fM (hrf _ _ _ hz1)
  rcases v_iteS h with ⟨c, h⟩ | ⟨c, h⟩
  · obtain ⟨hb, h⟩ := v_ckS h
    have h := Option.some.inj h
    subst h
    exact fz1
  · exact v_frT fz1 (fw_X7_readTest_L14 hrf h)
theorem fw_X7_readInner_L57 {N : Nat} {qo : Nat} {rf : Int32 → v_M → Option (Int32 × v_M)} {x2 : Int32} {M : v_M} {out : Int32 × v_M} (hrf : ∀ (x : Int32) (M : v_M) (out : Int32 × v_M), rf x M = some out → v_fr [(qo + 6)] [(35, 2), (35, 3), (35, 4), (35, 5), (35, 6), (qo, 3)] M out.2) (h : f_X7_readInner_L57 N qo rf x2 M = some out) : v_fr [(qo + 6)] [(35, 2), (35, 3), (35, 4), (35, 5), (35, 6), (qo, 3)] M out.2 := by
  have fM : v_fr [(qo + 6)] [(35, 2), (35, 3), (35, 4), (35, 5), (35, 6), (qo, 3)] M M := v_frR
  unfold f_X7_readInner_L57 at h
  rcases v_iteS h with ⟨c, h⟩ | ⟨c, h⟩
  · rcases v_iteS h with ⟨c, h⟩ | ⟨c, h⟩
    · obtain ⟨z1, hz1, h⟩ := v_bdS h
      have fz1 : v_fr [(qo + 6)] [(35, 2), (35, 3), (35, 4), (35, 5), (35, 6), (qo, 3)] M z1.2 := v_frt (by simp) (by simp) fM (fr_X7_step hz1)
      obtain ⟨hb, h⟩ := v_ckS h
      have h := Option.some.inj h
      subst h
      exact fz1
    · obtain ⟨z2, hz2, h⟩ := v_bdS h
      have fz2 : v_fr [(qo + 6)] [(35, 2), (35, 3), (35, 4), (35, 5), (35, 6), (qo, 3)] M z2.2 := v_frt (by simp) (by simp) fM (fr_X7_fail hz2)
      obtain ⟨hb, h⟩ := v_ckS h
      have h := Option.some.inj h
      subst h
      exact fz2
  · obtain ⟨z3, hz3, h⟩ := v_bdS h
    have fz3 : v_fr [(qo + 6)] [(35, 2), (35, 3), (35, 4), (35, 5), (35, 6), (qo, 3)] M z3.2 := v_frt (by simp) (by simp) fM (fr_X5_emit hz3)
    obtain ⟨hb, h⟩ := v_ckS h
    have h := Option.some.inj h
    subst h
    exact fz3
theorem fw_X7_readInner_L27 {N : Nat} {qo : Nat} {rf : Int32 → v_M → Option (Int32 × v_M)} {x1 : Int32} {t0 : Int32} {M : v_M} {out : Int32 × v_M} (hrf : ∀ (x : Int32) (M : v_M) (out : Int32 × v_M), rf x M = some out → v_fr [(qo + 6)] [(35, 2), (35, 3), (35, 4), (35, 5), (35, 6), (qo, 3)] M out.2) (h : f_X7_readInner_L27 N qo rf x1 t0 M = some out) : v_fr [(qo + 6)] [(35, 2), (35, 3), (35, 4), (35, 5), (35, 6), (qo, 3)] M out.2 := by
  have fM : v_fr [(qo + 6)] [(35, 2), (35, 3), (35, 4), (35, 5), (35, 6), (qo, 3)] M M := v_frR
  unfold f_X7_readInner_L27 at h
  obtain ⟨z1, hz1, h⟩ := v_bdS h
  have fz1 : v_fr [(qo + 6)] [(35, 2), (35, 3), (35, 4), (35, 5), (35, 6), (qo, 3)] M z1.2 := v_frt (by simp) (by simp) fM (fr_X7_step hz1)
  rcases v_iteS h with ⟨c, h⟩ | ⟨c, h⟩
  · obtain ⟨z2, hz2, h⟩ := v_bdS h
    have fz2 : v_fr [(qo + 6)] [(35, 2), (35, 3), (35, 4), (35, 5), (35, 6), (qo, 3)] M z2.2 := v_frt (by simp) (by simp) fz1 (fr_X7_readTest hrf hz2)
    rcases v_iteS h with ⟨c, h⟩ | ⟨c, h⟩
    · obtain ⟨hb, h⟩ := v_ckS h
      have h := Option.some.inj h
      subst h
      exact fz2
    · exact v_frT fz2 (fw_X7_readInner_L57 hrf h)
  · obtain ⟨z3, hz3, h⟩ := v_bdS h
    have fz3 : v_fr [(qo + 6)] [(35, 2), (35, 3), (35, 4), (35, 5), (35, 6), (qo, 3)] M z3.2 := v_frt (by simp) (by simp) fz1 (hrf _ _ _ hz3)
    rcases v_iteS h with ⟨c, h⟩ | ⟨c, h⟩
    · obtain ⟨hb, h⟩ := v_ckS h
      have h := Option.some.inj h
      subst h
      exact fz3
    · exact v_frT fz3 (fw_X7_readInner_L57 hrf h)
theorem fr_X7_readInner {N : Nat} {qo : Nat} {rf : Int32 → v_M → Option (Int32 × v_M)} {x1 : Int32} {M : v_M} {out : Int32 × v_M} (hrf : ∀ (x : Int32) (M : v_M) (out : Int32 × v_M), rf x M = some out → v_fr [(qo + 6)] [(35, 2), (35, 3), (35, 4), (35, 5), (35, 6), (qo, 3)] M out.2) (h : f_X7_readInner N qo rf x1 M = some out) : v_fr [(qo + 6)] [(35, 2), (35, 3), (35, 4), (35, 5), (35, 6), (qo, 3)] M out.2 := by
  have fM : v_fr [(qo + 6)] [(35, 2), (35, 3), (35, 4), (35, 5), (35, 6), (qo, 3)] M M := v_frR
  unfold f_X7_readInner at h
  rcases v_iteS h with ⟨c, h⟩ | ⟨c, h⟩
  · rcases v_iteS h with ⟨c, h⟩ | ⟨c, h⟩
    · exact v_frT fM (fw_X7_readInner_L27 hrf h)
    · exact v_frT fM (fw_X7_readInner_L27 hrf h)
  · obtain ⟨z1, hz1, h⟩ := v_bdS h
    have fz1 : v_fr [(qo + 6)] [(35, 2), (35, 3), (35, 4), (35, 5), (35, 6), (qo, 3)] M z1.2 := v_frt (by simp) (by simp) fM (fr_X7_fail hz1)
    obtain ⟨hb, h⟩ := v_ckS h
    have h := Option.some.inj h
    subst h
    exact fz1
theorem fr_X7_comparing {N : Nat} {M : v_M} {out : Int32 × v_M} (h : f_X7_comparing N M = some out) : v_fr [] [] M out.2 := by
  have fM : v_fr [] [] M M := v_frR
  unfold f_X7_comparing at h
  by_cases c60 : (M.1 35 3) = (60 : Int32)
  · rw [if_pos c60] at h
    have h := Option.some.inj h
    subst h
    exact fM
  · rw [if_neg c60] at h
    by_cases c61 : (M.1 35 3) = (61 : Int32)
    · rw [if_pos c61] at h
      have h := Option.some.inj h
      subst h
      exact fM
    · rw [if_neg c61] at h
      by_cases c62 : (M.1 35 3) = (62 : Int32)
      · rw [if_pos c62] at h
        have h := Option.some.inj h
        subst h
        exact fM
      · rw [if_neg c62] at h
        by_cases c257 : (M.1 35 3) = (257 : Int32)
        · rw [if_pos c257] at h
          have h := Option.some.inj h
          subst h
          exact fM
        · rw [if_neg c257] at h
          by_cases c258 : (M.1 35 3) = (258 : Int32)
          · rw [if_pos c258] at h
            have h := Option.some.inj h
            subst h
            exact fM
          · rw [if_neg c258] at h
            have h := Option.some.inj h
            subst h
            exact fM
theorem fw_X8_findTurn_L32 {N : Nat} {x1 : Int32} {x2 : Int32} {x3 : Int32} {M : v_M} {out : Int32 × v_M} {k2 : Int32 → Int32 → Int32 → v_M → Option (Int32 × v_M)} (hk2 : ∀ (x1 : Int32) (x2 : Int32) (x3 : Int32) (M : v_M), k2 x1 x2 x3 M = some out → v_fr [] [] M out.2) (h : f_X8_findTurn_L32 N k2 x1 x2 x3 M = some out) : v_fr [] [] M out.2 := by
  have fM : v_fr [] [] M M := v_frR
  unfold f_X8_findTurn_L32 at h
  exact v_frT fM (hk2 _ _ _ _ h)
theorem fv_X8_findTurn_L2 {N : Nat} {out : Int32 × v_M} (n : Nat) : ∀ (x1 : Int32) (x2 : Int32) (x3 : Int32) (M : v_M), f_X8_findTurn_L2 N n x1 x2 x3 M = some out → v_fr [] [] M out.2 := by
  induction n with
  | zero => intro x1 x2 x3 M h; rw [f_X8_findTurn_L2] at h; cases h
  | succ n ih =>
    intro x1 x2 x3 M h
    have fM : v_fr [] [] M M := v_frR
    rw [f_X8_findTurn_L2] at h
    rcases v_iteS h with ⟨c, h⟩ | ⟨c, h⟩
    · have h := Option.some.inj h
      subst h
      exact fM
    · obtain ⟨hb, h⟩ := v_ckS h
      rcases v_iteS h with ⟨c, h⟩ | ⟨c, h⟩
      · obtain ⟨hb, h⟩ := v_ckS h
        rcases v_iteS h with ⟨c, h⟩ | ⟨c, h⟩
        · have h := Option.some.inj h
          subst h
          exact fM
        · exact v_frT fM (fw_X8_findTurn_L32 ih h)
      · exact v_frT fM (fw_X8_findTurn_L32 ih h)
theorem fw_X8_findTurn_L2 {N n : Nat} {x1 : Int32} {x2 : Int32} {x3 : Int32} {M : v_M} {out : Int32 × v_M} (h : f_X8_findTurn_L2 N n x1 x2 x3 M = some out) : v_fr [] [] M out.2 := fv_X8_findTurn_L2 n x1 x2 x3 M h
theorem fr_X8_findTurn {N : Nat} {x1 : Int32} {x2 : Int32} {M : v_M} {out : Int32 × v_M} (h : f_X8_findTurn N x1 x2 M = some out) : v_fr [] [] M out.2 := by
  have fM : v_fr [] [] M M := v_frR
  unfold f_X8_findTurn at h
  exact v_frT fM (fw_X8_findTurn_L2 h)
theorem fr_X8_putSeen {N : Nat} {x1 : Int32} {x2 : Int32} {x3 : Int32} {M : v_M} {out : Int32 × v_M} (h : f_X8_putSeen N x1 x2 x3 M = some out) : v_fr [61, 62, 63] [(52, 9)] M out.2 := by
  have fM : v_fr [61, 62, 63] [(52, 9)] M M := v_frR
  unfold f_X8_putSeen at h
  rcases v_iteS h with ⟨c, h⟩ | ⟨c, h⟩
  · obtain ⟨hb, h⟩ := v_ckS h
    obtain ⟨M1, eM1, h⟩ := v_ltM h
    have fM1 : v_fr [61, 62, 63] [(52, 9)] M M1 := by rw [eM1]; exact v_frw (by simp) fM
    obtain ⟨hb, h⟩ := v_ckS h
    obtain ⟨M2, eM2, h⟩ := v_ltM h
    have fM2 : v_fr [61, 62, 63] [(52, 9)] M M2 := by rw [eM2]; exact v_frw (by simp) fM1
    obtain ⟨hb, h⟩ := v_ckS h
    obtain ⟨M3, eM3, h⟩ := v_ltM h
    have fM3 : v_fr [61, 62, 63] [(52, 9)] M M3 := by rw [eM3]; exact v_frw (by simp) fM2
    obtain ⟨M4, eM4, h⟩ := v_ltM h
    have fM4 : v_fr [61, 62, 63] [(52, 9)] M M4 := by rw [eM4]; exact v_fro (by simp) fM3
    have h := Option.some.inj h
    subst h
    exact fM4
  · have h := Option.some.inj h
    subst h
    exact fM
theorem fv_X9_put_L3 {N : Nat} {out : Int32 × v_M} (n : Nat) : ∀ (x1 : Int32) (x2 : Int32) (M : v_M), f_X9_put_L3 N n x1 x2 M = some out → v_fr [37] [(36, 0)] M out.2 := by
  induction n with
  | zero => intro x1 x2 M h; rw [f_X9_put_L3] at h; cases h
  | succ n ih =>
    intro x1 x2 M h
    have fM : v_fr [37] [(36, 0)] M M := v_frR
    rw [f_X9_put_L3] at h
    rcases v_iteS h with ⟨c, h⟩ | ⟨c, h⟩
    · have h := Option.some.inj h
      subst h
      exact fM
    · rcases v_iteS h with ⟨c, h⟩ | ⟨c, h⟩
      · have h := Option.some.inj h
        subst h
        exact fM
      · obtain ⟨hb, h⟩ := v_ckS h
        obtain ⟨M1, eM1, h⟩ := v_ltM h
        have fM1 : v_fr [37] [(36, 0)] M M1 := by rw [eM1]; exact v_frw (by simp) fM
        obtain ⟨M2, eM2, h⟩ := v_ltM h
        have fM2 : v_fr [37] [(36, 0)] M M2 := by rw [eM2]; exact v_fro (by simp) fM1
        exact v_frT fM2 (ih _ _ _ h)
theorem fw_X9_put_L3 {N n : Nat} {x1 : Int32} {x2 : Int32} {M : v_M} {out : Int32 × v_M} (h : f_X9_put_L3 N n x1 x2 M = some out) : v_fr [37] [(36, 0)] M out.2 := fv_X9_put_L3 n x1 x2 M h
theorem fr_X9_put {N : Nat} {x1 : Int32} {M : v_M} {out : Int32 × v_M} (h : f_X9_put N x1 M = some out) : v_fr [37] [(36, 0)] M out.2 := by
  have fM : v_fr [37] [(36, 0)] M M := v_frR
  unfold f_X9_put at h
  exact v_frT fM (fw_X9_put_L3 h)
theorem fr_X9_byteAt {N : Nat} {x1 : Int32} {M : v_M} {out : Int32 × v_M} (h : f_X9_byteAt N x1 M = some out) : v_fr [] [] M out.2 := by
  have fM : v_fr [] [] M M := v_frR
  unfold f_X9_byteAt at h
  rcases v_iteS h with ⟨c, h⟩ | ⟨c, h⟩
  · have h := Option.some.inj h
    subst h
    exact fM
  · rcases v_iteS h with ⟨c, h⟩ | ⟨c, h⟩
    · have h := Option.some.inj h
      subst h
      exact fM
    · rcases v_iteS h with ⟨c, h⟩ | ⟨c, h⟩
      · have h := Option.some.inj h
        subst h
        exact fM
      · obtain ⟨hb, h⟩ := v_ckS h
        have h := Option.some.inj h
        subst h
        exact fM
theorem fv_X9_skipBlanks_L2 {N : Nat} {out : Int32 × v_M} (n : Nat) : ∀ (x1 : Int32) (M : v_M), f_X9_skipBlanks_L2 N n x1 M = some out → v_fr [] [(36, 2)] M out.2 := by
  induction n with
  | zero => intro x1 M h; rw [f_X9_skipBlanks_L2] at h; cases h
  | succ n ih =>
    intro x1 M h
    have fM : v_fr [] [(36, 2)] M M := v_frR
    rw [f_X9_skipBlanks_L2] at h
    rcases v_iteS h with ⟨c, h⟩ | ⟨c, h⟩
    · have h := Option.some.inj h
      subst h
      exact fM
    · obtain ⟨z1, hz1, h⟩ := v_bdS h
      have fz1 : v_fr [] [(36, 2)] M z1.2 := v_frt (by simp) (by simp) fM (fr_X9_byteAt hz1)
      rcases v_iteS h with ⟨c, h⟩ | ⟨c, h⟩
      · obtain ⟨M2, eM2, h⟩ := v_ltM h
        have fM2 : v_fr [] [(36, 2)] M M2 := by rw [eM2]; exact v_fro (by simp) fz1
        exact v_frT fM2 (ih _ _ h)
      · have h := Option.some.inj h
        subst h
        exact fz1
theorem fw_X9_skipBlanks_L2 {N n : Nat} {x1 : Int32} {M : v_M} {out : Int32 × v_M} (h : f_X9_skipBlanks_L2 N n x1 M = some out) : v_fr [] [(36, 2)] M out.2 := fv_X9_skipBlanks_L2 n x1 M h
theorem fr_X9_skipBlanks {N : Nat} {M : v_M} {out : Int32 × v_M} (h : f_X9_skipBlanks N M = some out) : v_fr [] [(36, 2)] M out.2 := by
  have fM : v_fr [] [(36, 2)] M M := v_frR
  unfold f_X9_skipBlanks at h
  exact v_frT fM (fw_X9_skipBlanks_L2 h)
theorem fv_X9_isSame_L2 {N : Nat} {out : Int32 × v_M} (n : Nat) : ∀ (x1 : Int32) (x2 : Int32) (x3 : Int32) (M : v_M), f_X9_isSame_L2 N n x1 x2 x3 M = some out → v_fr [] [] M out.2 := by
  induction n with
  | zero => intro x1 x2 x3 M h; rw [f_X9_isSame_L2] at h; cases h
  | succ n ih =>
    intro x1 x2 x3 M h
    have fM : v_fr [] [] M M := v_frR
    rw [f_X9_isSame_L2] at h
    rcases v_iteS h with ⟨c, h⟩ | ⟨c, h⟩
    · obtain ⟨hb, h⟩ := v_ckS h
      have h := Option.some.inj h
      subst h
      exact fM
    · obtain ⟨y1, ey1, h⟩ := v_ltM h
      obtain ⟨z2, hz2, h⟩ := v_bdS h
      have fz2 : v_fr [] [] M z2.2 := v_frt (by simp) (by simp) fM (fr_J0_length_8abf5 hz2)
      rcases v_iteS h with ⟨c, h⟩ | ⟨c, h⟩
      · obtain ⟨hb, h⟩ := v_ckS h
        have h := Option.some.inj h
        subst h
        exact fz2
      · obtain ⟨z3, hz3, h⟩ := v_bdS h
        have fz3 : v_fr [] [] M z3.2 := v_frt (by simp) (by simp) fz2 (fr_J0_charAt_5068e hz3)
        obtain ⟨z4, hz4, h⟩ := v_bdS h
        have fz4 : v_fr [] [] M z4.2 := v_frt (by simp) (by simp) fz3 (fr_X9_byteAt hz4)
        rcases v_iteS h with ⟨c, h⟩ | ⟨c, h⟩
        · exact v_frT fz4 (ih _ _ _ _ h)
        · obtain ⟨hb, h⟩ := v_ckS h
          have h := Option.some.inj h
          subst h
          exact fz4
theorem fw_X9_isSame_L2 {N n : Nat} {x1 : Int32} {x2 : Int32} {x3 : Int32} {M : v_M} {out : Int32 × v_M} (h : f_X9_isSame_L2 N n x1 x2 x3 M = some out) : v_fr [] [] M out.2 := fv_X9_isSame_L2 n x1 x2 x3 M h
theorem fr_X9_isSame {N : Nat} {x1 : Int32} {x2 : Int32} {M : v_M} {out : Int32 × v_M} (h : f_X9_isSame N x1 x2 M = some out) : v_fr [] [] M out.2 := by
  have fM : v_fr [] [] M M := v_frR
  unfold f_X9_isSame at h
  exact v_frT fM (fw_X9_isSame_L2 h)
theorem fr_X9_isDigit {N : Nat} {x0 : Int32} {M : v_M} {out : Int32 × v_M} (h : f_X9_isDigit N x0 M = some out) : v_fr [] [] M out.2 := by
  have fM : v_fr [] [] M M := v_frR
  unfold f_X9_isDigit at h
  rcases v_iteS h with ⟨c, h⟩ | ⟨c, h⟩
  · obtain ⟨hb, h⟩ := v_ckS h
    have h := Option.some.inj h
    subst h
    exact fM
  · rcases v_iteS h with ⟨c, h⟩ | ⟨c, h⟩
    · obtain ⟨hb, h⟩ := v_ckS h
      have h := Option.some.inj h
      subst h
      exact fM
    · obtain ⟨hb, h⟩ := v_ckS h
      have h := Option.some.inj h
      subst h
      exact fM
theorem fr_X9_isLetter {N : Nat} {x0 : Int32} {M : v_M} {out : Int32 × v_M} (h : f_X9_isLetter N x0 M = some out) : v_fr [] [] M out.2 := by
  have fM : v_fr [] [] M M := v_frR
  unfold f_X9_isLetter at h
  rcases v_iteS h with ⟨c, h⟩ | ⟨c, h⟩
  · obtain ⟨hb, h⟩ := v_ckS h
    have h := Option.some.inj h
    subst h
    exact fM
  · rcases v_iteS h with ⟨c, h⟩ | ⟨c, h⟩
    · obtain ⟨hb, h⟩ := v_ckS h
      have h := Option.some.inj h
      subst h
      exact fM
    · obtain ⟨hb, h⟩ := v_ckS h
      have h := Option.some.inj h
      subst h
      exact fM
theorem fw_X10_queueHolders_L70 {N : Nat} {x4 : Int32} {x5 : Int32} {x6 : Int32} {M : v_M} {out : Int32 × v_M} {k14 : Int32 → Int32 → Int32 → v_M → Option (Int32 × v_M)} (hk14 : ∀ (x4 : Int32) (x5 : Int32) (x6 : Int32) (M : v_M), k14 x4 x5 x6 M = some out → v_fr [68] [] M out.2) (h : f_X10_queueHolders_L70 N k14 x4 x5 x6 M = some out) : v_fr [68] [] M out.2 := by
  have fM : v_fr [68] [] M M := v_frR
  unfold f_X10_queueHolders_L70 at h
  obtain ⟨hb, h⟩ := v_ckS h
  obtain ⟨y1, ey1, h⟩ := v_ltM h
  exact v_frT fM (hk14 _ _ _ _ h)
theorem fv_X10_queueHolders_L14 {N : Nat} {out : Int32 × v_M} (n : Nat) : ∀ (x4 : Int32) (x5 : Int32) (x6 : Int32) (M : v_M), f_X10_queueHolders_L14 N n x4 x5 x6 M = some out → v_fr [68] [] M out.2 := by
  induction n with
  | zero => intro x4 x5 x6 M h; rw [f_X10_queueHolders_L14] at h; cases h
  | succ n ih =>
    intro x4 x5 x6 M h
    have fM : v_fr [68] [] M M := v_frR
    rw [f_X10_queueHolders_L14] at h
    rcases v_iteS h with ⟨c, h⟩ | ⟨c, h⟩
    · have h := Option.some.inj h
      subst h
      exact fM
    · rcases v_iteS h with ⟨c, h⟩ | ⟨c, h⟩
      · have h := Option.some.inj h
        subst h
        exact fM
      · obtain ⟨hb, h⟩ := v_ckS h
        obtain ⟨y1, ey1, h⟩ := v_ltM h
        obtain ⟨hb, h⟩ := v_ckS h
        rcases v_iteS h with ⟨c, h⟩ | ⟨c, h⟩
        · rcases v_iteS h with ⟨c, h⟩ | ⟨c, h⟩
          · exact v_frT fM (fw_X10_queueHolders_L70 ih h)
          · obtain ⟨hb, h⟩ := v_ckS h
            obtain ⟨M2, eM2, h⟩ := v_ltM h
            have fM2 : v_fr [68] [] M M2 := by rw [eM2]; exact v_frw (by simp) fM
            exact v_frT fM2 (fw_X10_queueHolders_L70 ih h)
        · exact v_frT fM (fw_X10_queueHolders_L70 ih h)
theorem fw_X10_queueHolders_L14 {N n : Nat} {x4 : Int32} {x5 : Int32} {x6 : Int32} {M : v_M} {out : Int32 × v_M} (h : f_X10_queueHolders_L14 N n x4 x5 x6 M = some out) : v_fr [68] [] M out.2 := fv_X10_queueHolders_L14 n x4 x5 x6 M h
theorem fr_X10_queueHolders {N : Nat} {x2 : Int32} {x3 : Int32} {M : v_M} {out : Int32 × v_M} (h : f_X10_queueHolders N x2 x3 M = some out) : v_fr [68] [] M out.2 := by
  have fM : v_fr [68] [] M M := v_frR
  unfold f_X10_queueHolders at h
  obtain ⟨hb, h⟩ := v_ckS h
  obtain ⟨y1, ey1, h⟩ := v_ltM h
  exact v_frT fM (fw_X10_queueHolders_L14 h)
theorem fv_X10_moveChoices_L15 {N : Nat} {out : Int32 × v_M} (n : Nat) : ∀ (x3 : Int32) (x4 : Int32) (M : v_M), f_X10_moveChoices_L15 N n x3 x4 M = some out → v_fr [67, 69] [] M out.2 := by
  induction n with
  | zero => intro x3 x4 M h; rw [f_X10_moveChoices_L15] at h; cases h
  | succ n ih =>
    intro x3 x4 M h
    have fM : v_fr [67, 69] [] M M := v_frR
    rw [f_X10_moveChoices_L15] at h
    rcases v_iteS h with ⟨c, h⟩ | ⟨c, h⟩
    · have h := Option.some.inj h
      subst h
      exact fM
    · obtain ⟨hb, h⟩ := v_ckS h
      rcases v_iteS h with ⟨c, h⟩ | ⟨c, h⟩
      · have h := Option.some.inj h
        subst h
        exact fM
      · obtain ⟨hb, h⟩ := v_ckS h
        obtain ⟨y1, ey1, h⟩ := v_ltM h
        obtain ⟨hb, h⟩ := v_ckS h
        obtain ⟨y2, ey2, h⟩ := v_ltM h
        obtain ⟨hb, h⟩ := v_ckS h
        obtain ⟨y3, ey3, h⟩ := v_ltM h
        obtain ⟨hb, h⟩ := v_ckS h
        obtain ⟨M4, eM4, h⟩ := v_ltM h
        have fM4 : v_fr [67, 69] [] M M4 := by rw [eM4]; exact v_frw (by simp) fM
        rcases v_iteS h with ⟨c, h⟩ | ⟨c, h⟩
        · have h := Option.some.inj h
          subst h
          exact fM4
        · obtain ⟨hb, h⟩ := v_ckS h
          obtain ⟨y5, ey5, h⟩ := v_ltM h
          exact v_frT fM4 (ih _ _ _ h)
theorem fw_X10_moveChoices_L15 {N n : Nat} {x3 : Int32} {x4 : Int32} {M : v_M} {out : Int32 × v_M} (h : f_X10_moveChoices_L15 N n x3 x4 M = some out) : v_fr [67, 69] [] M out.2 := fv_X10_moveChoices_L15 n x3 x4 M h
theorem fr_X10_moveChoices {N : Nat} {x2 : Int32} {M : v_M} {out : Int32 × v_M} (h : f_X10_moveChoices N x2 M = some out) : v_fr [67, 69] [] M out.2 := by
  have fM : v_fr [67, 69] [] M M := v_frR
  unfold f_X10_moveChoices at h
  obtain ⟨hb, h⟩ := v_ckS h
  obtain ⟨hb, h⟩ := v_ckS h
  obtain ⟨M1, eM1, h⟩ := v_ltM h
  have fM1 : v_fr [67, 69] [] M M1 := by rw [eM1]; exact v_frw (by simp) fM
  exact v_frT fM1 (fw_X10_moveChoices_L15 h)
theorem fr_X11_machine {N : Nat} {M : v_M} {out : Int32 × v_M} (h : f_X11_machine N M = some out) : v_fr [] [(11, 0)] M out.2 := by
  have fM : v_fr [] [(11, 0)] M M := v_frR
  unfold f_X11_machine at h
  obtain ⟨z1, hz1, h⟩ := v_bdS h
  have fz1 : v_fr [] [(11, 0)] M z1.2 := v_frt (by simp) (by simp) fM (fr_X4_add hz1)
  have h := Option.some.inj h
  subst h
  exact fz1
theorem fr_X11_feed {N : Nat} {x1 : Int32} {x2 : Int32} {x3 : Int32} {x4 : Int32} {x5 : Int32} {M : v_M} {out : Int32 × v_M} (h : f_X11_feed N x1 x2 x3 x4 x5 M = some out) : v_fr [37] [(36, 0)] M out.2 := by
  have fM : v_fr [37] [(36, 0)] M M := v_frR
  unfold f_X11_feed at h
  rcases v_iteS h with ⟨c, h⟩ | ⟨c, h⟩
  · obtain ⟨z1, hz1, h⟩ := v_bdS h
    have fz1 : v_fr [37] [(36, 0)] M z1.2 := v_frt (by simp) (by simp) fM (fr_X9_put hz1)
    obtain ⟨z2, hz2, h⟩ := v_bdS h
    have fz2 : v_fr [37] [(36, 0)] M z2.2 := v_frt (by simp) (by simp) fz1 (fr_X9_put hz2)
    obtain ⟨z3, hz3, h⟩ := v_bdS h
    have fz3 : v_fr [37] [(36, 0)] M z3.2 := v_frt (by simp) (by simp) fz2 (fr_X9_put hz3)
    obtain ⟨z4, hz4, h⟩ := v_bdS h
    have fz4 : v_fr [37] [(36, 0)] M z4.2 := v_frt (by simp) (by simp) fz3 (fr_X9_put hz4)
    obtain ⟨z5, hz5, h⟩ := v_bdS h
    have fz5 : v_fr [37] [(36, 0)] M z5.2 := v_frt (by simp) (by simp) fz4 (fr_X9_put hz5)
    have h := Option.some.inj h
    subst h
    exact fz5
  · have h := Option.some.inj h
    subst h
    exact fM
theorem fw_X11_noneAfter_L81 {N : Nat} {x1 : Int32} {x2 : Int32} {l3 : Int64} {x5 : Int32} {x6 : Int32} {l7 : Int64} {l0 : Int64} {M : v_M} {out : Int32 × v_M} {k9 : Int32 → Int32 → Int64 → Int32 → Int32 → v_M → Option (Int32 × v_M)} (hk9 : ∀ (x1 : Int32) (x2 : Int32) (l3 : Int64) (x5 : Int32) (x6 : Int32) (M : v_M), k9 x1 x2 l3 x5 x6 M = some out → v_fr [] [] M out.2) (h : f_X11_noneAfter_L81 N k9 x1 x2 l3 x5 x6 l7 l0 M = some out) : v_fr [] [] M out.2 := by
  have fM : v_fr [] [] M M := v_frR
  unfold f_X11_noneAfter_L81 at h
  obtain ⟨y1, ey1, h⟩ := v_ltM h
  obtain ⟨y2, ey2, h⟩ := v_ltM h
  obtain ⟨y3, ey3, h⟩ := v_ltM h
  exact v_frT fM (hk9 _ _ _ _ _ _ h)
theorem fv_X11_noneAfter_L9 {N : Nat} {out : Int32 × v_M} (n : Nat) : ∀ (x1 : Int32) (x2 : Int32) (l3 : Int64) (x5 : Int32) (x6 : Int32) (M : v_M), f_X11_noneAfter_L9 N n x1 x2 l3 x5 x6 M = some out → v_fr [] [] M out.2 := by
  induction n with
  | zero => intro x1 x2 l3 x5 x6 M h; rw [f_X11_noneAfter_L9] at h; cases h
  | succ n ih =>
    intro x1 x2 l3 x5 x6 M h
    have fM : v_fr [] [] M M := v_frR
    rw [f_X11_noneAfter_L9] at h
    rcases v_iteS h with ⟨c, h⟩ | ⟨c, h⟩
    · have h := Option.some.inj h
      subst h
      exact fM
    · rcases v_iteS h with ⟨c, h⟩ | ⟨c, h⟩
      · have h := Option.some.inj h
        subst h
        exact fM
      · rcases v_iteS h with ⟨c, h⟩ | ⟨c, h⟩
        · have h := Option.some.inj h
          subst h
          exact fM
        · rcases v_iteS h with ⟨c, h⟩ | ⟨c, h⟩
          · have h := Option.some.inj h
            subst h
            exact fM
          · obtain ⟨hb, h⟩ := v_ckS h
            obtain ⟨y1, ey1, h⟩ := v_ltM h
            obtain ⟨hb, h⟩ := v_ckS h
            obtain ⟨y2, ey2, h⟩ := v_ltM h
            rcases v_iteS h with ⟨c, h⟩ | ⟨c, h⟩
            · exact v_frT fM (fw_X11_noneAfter_L81 ih h)
            · obtain ⟨hb, h⟩ := v_ckS h
              exact v_frT fM (fw_X11_noneAfter_L81 ih h)
theorem fw_X11_noneAfter_L9 {N n : Nat} {x1 : Int32} {x2 : Int32} {l3 : Int64} {x5 : Int32} {x6 : Int32} {M : v_M} {out : Int32 × v_M} (h : f_X11_noneAfter_L9 N n x1 x2 l3 x5 x6 M = some out) : v_fr [] [] M out.2 := fv_X11_noneAfter_L9 n x1 x2 l3 x5 x6 M h
theorem fr_X11_noneAfter {N : Nat} {x0 : Int32} {x1 : Int32} {x2 : Int32} {M : v_M} {out : Int32 × v_M} (h : f_X11_noneAfter N x0 x1 x2 M = some out) : v_fr [] [] M out.2 := by
  have fM : v_fr [] [] M M := v_frR
  unfold f_X11_noneAfter at h
  obtain ⟨y1, ey1, h⟩ := v_ltM h
  exact v_frT fM (fw_X11_noneAfter_L9 h)
theorem fr_X11_count {N : Nat} {x1 : Int32} {M : v_M} {out : Int32 × v_M} (h : f_X11_count N x1 M = some out) : v_fr [] [] M out.2 := by
  have fM : v_fr [] [] M M := v_frR
  unfold f_X11_count at h
  by_cases c0 : x1 = (0 : Int32)
  · rw [if_pos c0] at h
    have h := Option.some.inj h
    subst h
    exact fM
  · rw [if_neg c0] at h
    by_cases c1 : x1 = (1 : Int32)
    · rw [if_pos c1] at h
      have h := Option.some.inj h
      subst h
      exact fM
    · rw [if_neg c1] at h
      by_cases c2 : x1 = (2 : Int32)
      · rw [if_pos c2] at h
        have h := Option.some.inj h
        subst h
        exact fM
      · rw [if_neg c2] at h
        by_cases c3 : x1 = (3 : Int32)
        · rw [if_pos c3] at h
          have h := Option.some.inj h
          subst h
          exact fM
        · rw [if_neg c3] at h
          by_cases c4 : x1 = (4 : Int32)
          · rw [if_pos c4] at h
            have h := Option.some.inj h
            subst h
            exact fM
          · rw [if_neg c4] at h
            by_cases c5 : x1 = (5 : Int32)
            · rw [if_pos c5] at h
              have h := Option.some.inj h
              subst h
              exact fM
            · rw [if_neg c5] at h
              by_cases c6 : x1 = (6 : Int32)
              · rw [if_pos c6] at h
                have h := Option.some.inj h
                subst h
                exact fM
              · rw [if_neg c6] at h
                by_cases c7 : x1 = (7 : Int32)
                · rw [if_pos c7] at h
                  have h := Option.some.inj h
                  subst h
                  exact fM
                · rw [if_neg c7] at h
                  by_cases c8 : x1 = (8 : Int32)
                  · rw [if_pos c8] at h
                    have h := Option.some.inj h
                    subst h
                    exact fM
                  · rw [if_neg c8] at h
                    have h := Option.some.inj h
                    subst h
                    exact fM
theorem fr_X11_within {N : Nat} {x0 : Int32} {x1 : Int32} {x2 : Int32} {M : v_M} {out : Int32 × v_M} (h : f_X11_within N x0 x1 x2 M = some out) : v_fr [] [] M out.2 := by
  have fM : v_fr [] [] M M := v_frR
  unfold f_X11_within at h
  rcases v_iteS h with ⟨c, h⟩ | ⟨c, h⟩
  · obtain ⟨hb, h⟩ := v_ckS h
    have h := Option.some.inj h
    subst h
    exact fM
  · rcases v_iteS h with ⟨c, h⟩ | ⟨c, h⟩
    · obtain ⟨hb, h⟩ := v_ckS h
      have h := Option.some.inj h
      subst h
      exact fM
    · obtain ⟨hb, h⟩ := v_ckS h
      have h := Option.some.inj h
      subst h
      exact fM
theorem fr_X11_asNumber {N : Nat} {x0 : Int32} {M : v_M} {out : Int32 × v_M} (h : f_X11_asNumber N x0 M = some out) : v_fr [] [] M out.2 := by
  have fM : v_fr [] [] M M := v_frR
  unfold f_X11_asNumber at h
  rcases v_iteS h with ⟨c, h⟩ | ⟨c, h⟩
  · have h := Option.some.inj h
    subst h
    exact fM
  · have h := Option.some.inj h
    subst h
    exact fM
theorem fr_X11_swap {N : Nat} {r0 n0 : Nat} {x1 : Int32} {x2 : Int32} {M : v_M} {out : Int32 × v_M} (h : f_X11_swap N r0 n0 x1 x2 M = some out) : v_fr [r0] [] M out.2 := by
  have fM : v_fr [r0] [] M M := v_frR
  unfold f_X11_swap at h
  obtain ⟨z1, hz1, h⟩ := v_bdS h
  have fz1 : v_fr [r0] [] M z1.2 := v_frt (by simp) (by simp) fM (fr_X11_within hz1)
  rcases v_iteS h with ⟨c, h⟩ | ⟨c, h⟩
  · have h := Option.some.inj h
    subst h
    exact fz1
  · obtain ⟨hb, h⟩ := v_ckS h
    obtain ⟨y2, ey2, h⟩ := v_ltM h
    obtain ⟨hb, h⟩ := v_ckS h
    obtain ⟨M3, eM3, h⟩ := v_ltM h
    have fM3 : v_fr [r0] [] M M3 := by rw [eM3]; exact v_frw (by simp) fz1
    have h := Option.some.inj h
    subst h
    exact fM3
theorem fr_X11_hasPart {N : Nat} {x1 : Int32} {M : v_M} {out : Int32 × v_M} (h : f_X11_hasPart N x1 M = some out) : v_fr [] [] M out.2 := by
  have fM : v_fr [] [] M M := v_frR
  unfold f_X11_hasPart at h
  obtain ⟨z1, hz1, h⟩ := v_bdS h
  have fz1 : v_fr [] [] M z1.2 := v_frt (by simp) (by simp) fM (fr_X11_within hz1)
  obtain ⟨hb, h⟩ := v_ckS h
  have h := Option.some.inj h
  subst h
  exact fz1
theorem fr_X11_hasMachine {N : Nat} {x1 : Int32} {M : v_M} {out : Int32 × v_M} (h : f_X11_hasMachine N x1 M = some out) : v_fr [] [] M out.2 := by
  have fM : v_fr [] [] M M := v_frR
  unfold f_X11_hasMachine at h
  obtain ⟨z1, hz1, h⟩ := v_bdS h
  have fz1 : v_fr [] [] M z1.2 := v_frt (by simp) (by simp) fM (fr_X11_within hz1)
  obtain ⟨hb, h⟩ := v_ckS h
  have h := Option.some.inj h
  subst h
  exact fz1
theorem fr_X11_hasPartOf {N : Nat} {x1 : Int32} {x2 : Int32} {M : v_M} {out : Int32 × v_M} (h : f_X11_hasPartOf N x1 x2 M = some out) : v_fr [] [] M out.2 := by
  have fM : v_fr [] [] M M := v_frR
  unfold f_X11_hasPartOf at h
  obtain ⟨z1, hz1, h⟩ := v_bdS h
  have fz1 : v_fr [] [] M z1.2 := v_frt (by simp) (by simp) fM (fr_X11_hasMachine hz1)
  rcases v_iteS h with ⟨c, h⟩ | ⟨c, h⟩
  · obtain ⟨hb, h⟩ := v_ckS h
    have h := Option.some.inj h
    subst h
    exact fz1
  · obtain ⟨z2, hz2, h⟩ := v_bdS h
    have fz2 : v_fr [] [] M z2.2 := v_frt (by simp) (by simp) fz1 (fr_X11_hasPart hz2)
    rcases v_iteS h with ⟨c, h⟩ | ⟨c, h⟩
    · obtain ⟨hb, h⟩ := v_ckS h
      have h := Option.some.inj h
      subst h
      exact fz2
    · obtain ⟨hb, h⟩ := v_ckS h
      have h := Option.some.inj h
      subst h
      exact fz2
theorem fr_X12_in {N : Nat} {l0 : Int64} {l2 : Int64} {l4 : Int64} {M : v_M} {out : Int32 × v_M} (h : f_X12_in N l0 l2 l4 M = some out) : v_fr [] [] M out.2 := by
  have fM : v_fr [] [] M M := v_frR
  unfold f_X12_in at h
  rcases v_iteS h with ⟨c, h⟩ | ⟨c, h⟩
  · obtain ⟨hb, h⟩ := v_ckS h
    have h := Option.some.inj h
    subst h
    exact fM
  · rcases v_iteS h with ⟨c, h⟩ | ⟨c, h⟩
    · obtain ⟨hb, h⟩ := v_ckS h
      have h := Option.some.inj h
      subst h
      exact fM
    · obtain ⟨hb, h⟩ := v_ckS h
      have h := Option.some.inj h
      subst h
      exact fM
theorem fr_X12_isDay {N : Nat} {x0 : Int32} {M : v_M} {out : Int32 × v_M} (h : f_X12_isDay N x0 M = some out) : v_fr [] [] M out.2 := by
  have fM : v_fr [] [] M M := v_frR
  unfold f_X12_isDay at h
  obtain ⟨z1, hz1, h⟩ := v_bdS h
  have fz1 : v_fr [] [] M z1.2 := v_frt (by simp) (by simp) fM (fr_X12_in hz1)
  obtain ⟨hb, h⟩ := v_ckS h
  have h := Option.some.inj h
  subst h
  exact fz1
theorem fr_X12_clock {N : Nat} {x1 : Int32} {M : v_M} {out : Int32 × v_M} (h : f_X12_clock N x1 M = some out) : v_fr [] [(79, 1)] M out.2 := by
  have fM : v_fr [] [(79, 1)] M M := v_frR
  unfold f_X12_clock at h
  obtain ⟨z1, hz1, h⟩ := v_bdS h
  have fz1 : v_fr [] [(79, 1)] M z1.2 := v_frt (by simp) (by simp) fM (fr_X12_in hz1)
  rcases v_iteS h with ⟨c, h⟩ | ⟨c, h⟩
  · obtain ⟨hb, h⟩ := v_ckS h
    have h := Option.some.inj h
    subst h
    exact fz1
  · obtain ⟨M2, eM2, h⟩ := v_ltM h
    have fM2 : v_fr [] [(79, 1)] M M2 := by rw [eM2]; exact v_fro (by simp) fz1
    obtain ⟨hb, h⟩ := v_ckS h
    have h := Option.some.inj h
    subst h
    exact fM2
theorem fr_X12_isPart {N : Nat} {x1 : Int32} {M : v_M} {out : Int32 × v_M} (h : f_X12_isPart N x1 M = some out) : v_fr [] [] M out.2 := by
  have fM : v_fr [] [] M M := v_frR
  unfold f_X12_isPart at h
  obtain ⟨z1, hz1, h⟩ := v_bdS h
  have fz1 : v_fr [] [] M z1.2 := v_frt (by simp) (by simp) fM (fr_X12_in hz1)
  obtain ⟨hb, h⟩ := v_ckS h
  have h := Option.some.inj h
  subst h
  exact fz1
theorem fr_X12_isMachine {N : Nat} {x1 : Int32} {M : v_M} {out : Int32 × v_M} (h : f_X12_isMachine N x1 M = some out) : v_fr [] [] M out.2 := by
  have fM : v_fr [] [] M M := v_frR
  unfold f_X12_isMachine at h
  obtain ⟨z1, hz1, h⟩ := v_bdS h
  have fz1 : v_fr [] [] M z1.2 := v_frt (by simp) (by simp) fM (fr_X12_in hz1)
  obtain ⟨hb, h⟩ := v_ckS h
  have h := Option.some.inj h
  subst h
  exact fz1
theorem fr_X12_isDriven {N : Nat} {x1 : Int32} {x2 : Int32} {M : v_M} {out : Int32 × v_M} (h : f_X12_isDriven N x1 x2 M = some out) : v_fr [] [] M out.2 := by
  have fM : v_fr [] [] M M := v_frR
  unfold f_X12_isDriven at h
  rcases v_iteS h with ⟨c, h⟩ | ⟨c, h⟩
  · rcases v_iteS h with ⟨c, h⟩ | ⟨c, h⟩
    · rcases v_iteS h with ⟨c, h⟩ | ⟨c, h⟩
      · obtain ⟨hb, h⟩ := v_ckS h
        have h := Option.some.inj h
        subst h
        exact fM
      · obtain ⟨hb, h⟩ := v_ckS h
        have h := Option.some.inj h
        subst h
        exact fM
    · obtain ⟨hb, h⟩ := v_ckS h
      have h := Option.some.inj h
      subst h
      exact fM
  · rcases v_iteS h with ⟨c, h⟩ | ⟨c, h⟩
    · obtain ⟨hb, h⟩ := v_ckS h
      have h := Option.some.inj h
      subst h
      exact fM
    · obtain ⟨z1, hz1, h⟩ := v_bdS h
      have fz1 : v_fr [] [] M z1.2 := v_frt (by simp) (by simp) fM (fr_X12_isPart hz1)
      rcases v_iteS h with ⟨c, h⟩ | ⟨c, h⟩
      · obtain ⟨hb, h⟩ := v_ckS h
        have h := Option.some.inj h
        subst h
        exact fz1
      · rcases v_iteS h with ⟨c, h⟩ | ⟨c, h⟩
        · obtain ⟨hb, h⟩ := v_ckS h
          rcases v_iteS h with ⟨c, h⟩ | ⟨c, h⟩
          · obtain ⟨hb, h⟩ := v_ckS h
            have h := Option.some.inj h
            subst h
            exact fz1
          · obtain ⟨hb, h⟩ := v_ckS h
            have h := Option.some.inj h
            subst h
            exact fz1
        · obtain ⟨hb, h⟩ := v_ckS h
          rcases v_iteS h with ⟨c, h⟩ | ⟨c, h⟩
          · obtain ⟨hb, h⟩ := v_ckS h
            have h := Option.some.inj h
            subst h
            exact fz1
          · obtain ⟨hb, h⟩ := v_ckS h
            have h := Option.some.inj h
            subst h
            exact fz1
theorem fr_X12_part {N : Nat} {x1 : Int32} {x2 : Int32} {x3 : Int32} {x4 : Int32} {x5 : Int32} {x6 : Int32} {x7 : Int32} {M : v_M} {out : Int32 × v_M} (h : f_X12_part N x1 x2 x3 x4 x5 x6 x7 M = some out) : v_fr [80, 81, 82, 83, 84, 85, 86, 87] [(79, 2)] M out.2 := by
  have fM : v_fr [80, 81, 82, 83, 84, 85, 86, 87] [(79, 2)] M M := v_frR
  unfold f_X12_part at h
  rcases v_iteS h with ⟨c, h⟩ | ⟨c, h⟩
  · have h := Option.some.inj h
    subst h
    exact fM
  · obtain ⟨z1, hz1, h⟩ := v_bdS h
    have fz1 : v_fr [80, 81, 82, 83, 84, 85, 86, 87] [(79, 2)] M z1.2 := v_frt (by simp) (by simp) fM (fr_X12_in hz1)
    rcases v_iteS h with ⟨c, h⟩ | ⟨c, h⟩
    · have h := Option.some.inj h
      subst h
      exact fz1
    · obtain ⟨z2, hz2, h⟩ := v_bdS h
      have fz2 : v_fr [80, 81, 82, 83, 84, 85, 86, 87] [(79, 2)] M z2.2 := v_frt (by simp) (by simp) fz1 (fr_X12_isDriven hz2)
      rcases v_iteS h with ⟨c, h⟩ | ⟨c, h⟩
      · have h := Option.some.inj h
        subst h
        exact fz2
      · obtain ⟨z3, hz3, h⟩ := v_bdS h
        have fz3 : v_fr [80, 81, 82, 83, 84, 85, 86, 87] [(79, 2)] M z3.2 := v_frt (by simp) (by simp) fz2 (fr_X12_in hz3)
        rcases v_iteS h with ⟨c, h⟩ | ⟨c, h⟩
        · have h := Option.some.inj h
          subst h
          exact fz3
        · obtain ⟨z4, hz4, h⟩ := v_bdS h
          have fz4 : v_fr [80, 81, 82, 83, 84, 85, 86, 87] [(79, 2)] M z4.2 := v_frt (by simp) (by simp) fz3 (fr_X12_in hz4)
          rcases v_iteS h with ⟨c, h⟩ | ⟨c, h⟩
          · have h := Option.some.inj h
            subst h
            exact fz4
          · obtain ⟨hb, h⟩ := v_ckS h
            rcases v_iteS h with ⟨c, h⟩ | ⟨c, h⟩
            · have h := Option.some.inj h
              subst h
              exact fz4
            · obtain ⟨z5, hz5, h⟩ := v_bdS h
              have fz5 : v_fr [80, 81, 82, 83, 84, 85, 86, 87] [(79, 2)] M z5.2 := v_frt (by simp) (by simp) fz4 (fr_X12_in hz5)
              rcases v_iteS h with ⟨c, h⟩ | ⟨c, h⟩
              · have h := Option.some.inj h
                subst h
                exact fz5
              · obtain ⟨z6, hz6, h⟩ := v_bdS h
                have fz6 : v_fr [80, 81, 82, 83, 84, 85, 86, 87] [(79, 2)] M z6.2 := v_frt (by simp) (by simp) fz5 (fr_X12_in hz6)
                rcases v_iteS h with ⟨c, h⟩ | ⟨c, h⟩
                · have h := Option.some.inj h
                  subst h
                  exact fz6
                · obtain ⟨z7, hz7, h⟩ := v_bdS h
                  have fz7 : v_fr [80, 81, 82, 83, 84, 85, 86, 87] [(79, 2)] M z7.2 := v_frt (by simp) (by simp) fz6 (fr_X12_in hz7)
                  rcases v_iteS h with ⟨c, h⟩ | ⟨c, h⟩
                  · have h := Option.some.inj h
                    subst h
                    exact fz7
                  · obtain ⟨hb, h⟩ := v_ckS h
                    obtain ⟨M8, eM8, h⟩ := v_ltM h
                    have fM8 : v_fr [80, 81, 82, 83, 84, 85, 86, 87] [(79, 2)] M M8 := by rw [eM8]; exact v_frw (by simp) fz7
                    obtain ⟨hb, h⟩ := v_ckS h
                    obtain ⟨M9, eM9, h⟩ := v_ltM h
                    have fM9 : v_fr [80, 81, 82, 83, 84, 85, 86, 87] [(79, 2)] M M9 := by rw [eM9]; exact v_frw (by simp) fM8
                    obtain ⟨hb, h⟩ := v_ckS h
                    obtain ⟨M10, eM10, h⟩ := v_ltM h
                    have fM10 : v_fr [80, 81, 82, 83, 84, 85, 86, 87] [(79, 2)] M M10 := by rw [eM10]; exact v_frw (by simp) fM9
                    obtain ⟨hb, h⟩ := v_ckS h
                    obtain ⟨M11, eM11, h⟩ := v_ltM h
                    have fM11 : v_fr [80, 81, 82, 83, 84, 85, 86, 87] [(79, 2)] M M11 := by rw [eM11]; exact v_frw (by simp) fM10
                    obtain ⟨hb, h⟩ := v_ckS h
                    obtain ⟨M12, eM12, h⟩ := v_ltM h
                    have fM12 : v_fr [80, 81, 82, 83, 84, 85, 86, 87] [(79, 2)] M M12 := by rw [eM12]; exact v_frw (by simp) fM11
                    obtain ⟨hb, h⟩ := v_ckS h
                    obtain ⟨M13, eM13, h⟩ := v_ltM h
                    have fM13 : v_fr [80, 81, 82, 83, 84, 85, 86, 87] [(79, 2)] M M13 := by rw [eM13]; exact v_frw (by simp) fM12
                    obtain ⟨hb, h⟩ := v_ckS h
                    obtain ⟨M14, eM14, h⟩ := v_ltM h
                    have fM14 : v_fr [80, 81, 82, 83, 84, 85, 86, 87] [(79, 2)] M M14 := by rw [eM14]; exact v_frw (by simp) fM13
                    obtain ⟨hb, h⟩ := v_ckS h
                    obtain ⟨M15, eM15, h⟩ := v_ltM h
                    have fM15 : v_fr [80, 81, 82, 83, 84, 85, 86, 87] [(79, 2)] M M15 := by rw [eM15]; exact v_frw (by simp) fM14
                    obtain ⟨M16, eM16, h⟩ := v_ltM h
                    have fM16 : v_fr [80, 81, 82, 83, 84, 85, 86, 87] [(79, 2)] M M16 := by rw [eM16]; exact v_fro (by simp) fM15
                    have h := Option.some.inj h
                    subst h
                    exact fM16
theorem fr_X12_clears {N : Nat} {x1 : Int32} {x2 : Int32} {M : v_M} {out : Int32 × v_M} (h : f_X12_clears N x1 x2 M = some out) : v_fr [88, 89, 90, 91] [] M out.2 := by
  have fM : v_fr [88, 89, 90, 91] [] M M := v_frR
  unfold f_X12_clears at h
  obtain ⟨hb, h⟩ := v_ckS h
  obtain ⟨M1, eM1, h⟩ := v_ltM h
  have fM1 : v_fr [88, 89, 90, 91] [] M M1 := by rw [eM1]; exact v_frw (by simp) fM
  obtain ⟨hb, h⟩ := v_ckS h
  obtain ⟨M2, eM2, h⟩ := v_ltM h
  have fM2 : v_fr [88, 89, 90, 91] [] M M2 := by rw [eM2]; exact v_frw (by simp) fM1
  obtain ⟨hb, h⟩ := v_ckS h
  obtain ⟨M3, eM3, h⟩ := v_ltM h
  have fM3 : v_fr [88, 89, 90, 91] [] M M3 := by rw [eM3]; exact v_frw (by simp) fM2
  obtain ⟨hb, h⟩ := v_ckS h
  obtain ⟨M4, eM4, h⟩ := v_ltM h
  have fM4 : v_fr [88, 89, 90, 91] [] M M4 := by rw [eM4]; exact v_frw (by simp) fM3
  have h := Option.some.inj h
  subst h
  exact fM4
theorem fw_X12_turn_L82 {N : Nat} {x3 : Int32} {x4 : Int32} {x5 : Int32} {t0 : Int32} {M : v_M} {out : Int32 × v_M} (h : f_X12_turn_L82 N x3 x4 x5 t0 M = some out) : v_fr [88, 89] [] M out.2 := by
  have fM : v_fr [88, 89] [] M M := v_frR
  unfold f_X12_turn_L82 at h
  rcases v_iteS h with ⟨c, h⟩ | ⟨c, h⟩
  · obtain ⟨hb, h⟩ := v_ckS h
    obtain ⟨M2, eM2, h⟩ := v_ltM h
    have fM2 : v_fr [88, 89] [] M M2 := by rw [eM2]; exact v_frw (by simp) fM
    have h := Option.some.inj h
    subst h
    exact fM2
  · obtain ⟨hb, h⟩ := v_ckS h
    obtain ⟨M1, eM1, h⟩ := v_ltM h
    have fM1 : v_fr [88, 89] [] M M1 := by rw [eM1]; exact v_frw (by simp) fM
    have h := Option.some.inj h
    subst h
    exact fM1
theorem fw_X12_turn_L40 {N : Nat} {x1 : Int32} {x2 : Int32} {x3 : Int32} {x4 : Int32} {l0 : Int64} {l1 : Int64} {M : v_M} {out : Int32 × v_M} (h : f_X12_turn_L40 N x1 x2 x3 x4 l0 l1 M = some out) : v_fr [88, 89] [] M out.2 := by
  have fM : v_fr [88, 89] [] M M := v_frR
  unfold f_X12_turn_L40 at h
  obtain ⟨z1, hz1, h⟩ := v_bdS h
  have fz1 : v_fr [88, 89] [] M z1.2 := v_frt (by simp) (by simp) fM (fr_X12_in hz1)
  rcases v_iteS h with ⟨c, h⟩ | ⟨c, h⟩
  · have h := Option.some.inj h
    subst h
    exact fz1
  · obtain ⟨y2, ey2, h⟩ := v_ltM h
    rcases v_iteS h with ⟨c, h⟩ | ⟨c, h⟩
    · obtain ⟨hb, h⟩ := v_ckS h
      exact v_frT fz1 (fw_X12_turn_L82 h)
    · obtain ⟨hb, h⟩ := v_ckS h
      exact v_frT fz1 (fw_X12_turn_L82 h)
theorem fr_X12_turn {N : Nat} {x1 : Int32} {x2 : Int32} {x3 : Int32} {x4 : Int32} {M : v_M} {out : Int32 × v_M} (h : f_X12_turn N x1 x2 x3 x4 M = some out) : v_fr [88, 89] [] M out.2 := by
  have fM : v_fr [88, 89] [] M M := v_frR
  unfold f_X12_turn at h
  obtain ⟨z1, hz1, h⟩ := v_bdS h
  have fz1 : v_fr [88, 89] [] M z1.2 := v_frt (by simp) (by simp) fM (fr_X12_isMachine hz1)
  rcases v_iteS h with ⟨c, h⟩ | ⟨c, h⟩
  · have h := Option.some.inj h
    subst h
    exact fz1
  · obtain ⟨z2, hz2, h⟩ := v_bdS h
    have fz2 : v_fr [88, 89] [] M z2.2 := v_frt (by simp) (by simp) fz1 (fr_X12_isPart hz2)
    rcases v_iteS h with ⟨c, h⟩ | ⟨c, h⟩
    · have h := Option.some.inj h
      subst h
      exact fz2
    · obtain ⟨z3, hz3, h⟩ := v_bdS h
      have fz3 : v_fr [88, 89] [] M z3.2 := v_frt (by simp) (by simp) fz2 (fr_X12_in hz3)
      rcases v_iteS h with ⟨c, h⟩ | ⟨c, h⟩
      · have h := Option.some.inj h
        subst h
        exact fz3
      · rcases v_iteS h with ⟨c, h⟩ | ⟨c, h⟩
        · exact v_frT fz3 (fw_X12_turn_L40 h)
        · exact v_frT fz3 (fw_X12_turn_L40 h)
theorem fr_X12_anew {N : Nat} {x1 : Int32} {x2 : Int32} {M : v_M} {out : Int32 × v_M} (h : f_X12_anew N x1 x2 M = some out) : v_fr [90] [] M out.2 := by
  have fM : v_fr [90] [] M M := v_frR
  unfold f_X12_anew at h
  obtain ⟨z1, hz1, h⟩ := v_bdS h
  have fz1 : v_fr [90] [] M z1.2 := v_frt (by simp) (by simp) fM (fr_X12_isMachine hz1)
  rcases v_iteS h with ⟨c, h⟩ | ⟨c, h⟩
  · have h := Option.some.inj h
    subst h
    exact fz1
  · obtain ⟨z2, hz2, h⟩ := v_bdS h
    have fz2 : v_fr [90] [] M z2.2 := v_frt (by simp) (by simp) fz1 (fr_X12_isPart hz2)
    rcases v_iteS h with ⟨c, h⟩ | ⟨c, h⟩
    · have h := Option.some.inj h
      subst h
      exact fz2
    · obtain ⟨hb, h⟩ := v_ckS h
      rcases v_iteS h with ⟨c, h⟩ | ⟨c, h⟩
      · obtain ⟨hb, h⟩ := v_ckS h
        obtain ⟨y3, ey3, h⟩ := v_ltM h
        obtain ⟨hb, h⟩ := v_ckS h
        obtain ⟨M4, eM4, h⟩ := v_ltM h
        have fM4 : v_fr [90] [] M M4 := by rw [eM4]; exact v_frw (by simp) fz2
        have h := Option.some.inj h
        subst h
        exact fM4
      · have h := Option.some.inj h
        subst h
        exact fz2
theorem fv_X12_takes_L2 {N : Nat} {out : Int32 × v_M} (n : Nat) : ∀ (x1 : Int32) (x2 : Int32) (M : v_M), f_X12_takes_L2 N n x1 x2 M = some out → v_fr [94, 95, 96, 97, 98, 99] [] M out.2 := by
  induction n with
  | zero => intro x1 x2 M h; rw [f_X12_takes_L2] at h; cases h
  | succ n ih =>
    intro x1 x2 M h
    have fM : v_fr [94, 95, 96, 97, 98, 99] [] M M := v_frR
    rw [f_X12_takes_L2] at h
    rcases v_iteS h with ⟨c, h⟩ | ⟨c, h⟩
    · have h := Option.some.inj h
      subst h
      exact fM
    · obtain ⟨y1, ey1, h⟩ := v_ltM h
      obtain ⟨hb, h⟩ := v_ckS h
      obtain ⟨hb, h⟩ := v_ckS h
      obtain ⟨M2, eM2, h⟩ := v_ltM h
      have fM2 : v_fr [94, 95, 96, 97, 98, 99] [] M M2 := by rw [eM2]; exact v_frw (by simp) fM
      obtain ⟨hb, h⟩ := v_ckS h
      obtain ⟨hb, h⟩ := v_ckS h
      obtain ⟨hb, h⟩ := v_ckS h
      obtain ⟨M3, eM3, h⟩ := v_ltM h
      have fM3 : v_fr [94, 95, 96, 97, 98, 99] [] M M3 := by rw [eM3]; exact v_frw (by simp) fM2
      obtain ⟨hb, h⟩ := v_ckS h
      obtain ⟨hb, h⟩ := v_ckS h
      obtain ⟨M4, eM4, h⟩ := v_ltM h
      have fM4 : v_fr [94, 95, 96, 97, 98, 99] [] M M4 := by rw [eM4]; exact v_frw (by simp) fM3
      obtain ⟨hb, h⟩ := v_ckS h
      obtain ⟨hb, h⟩ := v_ckS h
      obtain ⟨M5, eM5, h⟩ := v_ltM h
      have fM5 : v_fr [94, 95, 96, 97, 98, 99] [] M M5 := by rw [eM5]; exact v_frw (by simp) fM4
      obtain ⟨hb, h⟩ := v_ckS h
      obtain ⟨hb, h⟩ := v_ckS h
      obtain ⟨M6, eM6, h⟩ := v_ltM h
      have fM6 : v_fr [94, 95, 96, 97, 98, 99] [] M M6 := by rw [eM6]; exact v_frw (by simp) fM5
      obtain ⟨hb, h⟩ := v_ckS h
      obtain ⟨hb, h⟩ := v_ckS h
      obtain ⟨M7, eM7, h⟩ := v_ltM h
      have fM7 : v_fr [94, 95, 96, 97, 98, 99] [] M M7 := by rw [eM7]; exact v_frw (by simp) fM6
      exact v_frT fM7 (ih _ _ _ h)
theorem fw_X12_takes_L2 {N n : Nat} {x1 : Int32} {x2 : Int32} {M : v_M} {out : Int32 × v_M} (h : f_X12_takes_L2 N n x1 x2 M = some out) : v_fr [94, 95, 96, 97, 98, 99] [] M out.2 := fv_X12_takes_L2 n x1 x2 M h
theorem fr_X12_takes {N : Nat} {x1 : Int32} {M : v_M} {out : Int32 × v_M} (h : f_X12_takes N x1 M = some out) : v_fr [94, 95, 96, 97, 98, 99] [] M out.2 := by
  have fM : v_fr [94, 95, 96, 97, 98, 99] [] M M := v_frR
  unfold f_X12_takes at h
  exact v_frT fM (fw_X12_takes_L2 h)
theorem fw_X12_lets_L212 {N : Nat} {x1 : Int32} {x2 : Int32} {x4 : Int32} {t0 : Int32} {M : v_M} {out : Int32 × v_M} {k5 : Int32 → Int32 → Int32 → Int32 → v_M → Option (Int32 × v_M)} (hk5 : ∀ (x1 : Int32) (x2 : Int32) (x3 : Int32) (x4 : Int32) (M : v_M), k5 x1 x2 x3 x4 M = some out → v_fr [99, 100] [] M out.2) (h : f_X12_lets_L212 N k5 x1 x2 x4 t0 M = some out) : v_fr [99, 100] [] M out.2 := by
  have fM : v_fr [99, 100] [] M M := v_frR
  unfold f_X12_lets_L212 at h
  exact v_frT fM (hk5 _ _ _ _ _ h)
theorem fw_X12_lets_L211 {N : Nat} {x1 : Int32} {x2 : Int32} {x4 : Int32} {M : v_M} {out : Int32 × v_M} {k5 : Int32 → Int32 → Int32 → Int32 → v_M → Option (Int32 × v_M)} (hk5 : ∀ (x1 : Int32) (x2 : Int32) (x3 : Int32) (x4 : Int32) (M : v_M), k5 x1 x2 x3 x4 M = some out → v_fr [99, 100] [] M out.2) (h : f_X12_lets_L211 N k5 x1 x2 x4 M = some out) : v_fr [99, 100] [] M out.2 := by
  have fM : v_fr [99, 100] [] M M := v_frR
  unfold f_X12_lets_L211 at h
  exact v_frT fM (fw_X12_lets_L212 hk5 h)
theorem fw_X12_lets_L207 {N : Nat} {x1 : Int32} {x2 : Int32} {x4 : Int32} {M : v_M} {out : Int32 × v_M} {k5 : Int32 → Int32 → Int32 → Int32 → v_M → Option (Int32 × v_M)} (hk5 : ∀ (x1 : Int32) (x2 : Int32) (x3 : Int32) (x4 : Int32) (M : v_M), k5 x1 x2 x3 x4 M = some out → v_fr [99, 100] [] M out.2) (h : f_X12_lets_L207 N k5 x1 x2 x4 M = some out) : v_fr [99, 100] [] M out.2 := by
  have fM : v_fr [99, 100] [] M M := v_frR
  unfold f_X12_lets_L207 at h
  exact v_frT fM (fw_X12_lets_L212 hk5 h)
theorem fw_X12_lets_L163 {N : Nat} {x1 : Int32} {x2 : Int32} {x3 : Int32} {x4 : Int32} {t0 : Int32} {t1 : Int32} {M : v_M} {out : Int32 × v_M} {k5 : Int32 → Int32 → Int32 → Int32 → v_M → Option (Int32 × v_M)} (hk5 : ∀ (x1 : Int32) (x2 : Int32) (x3 : Int32) (x4 : Int32) (M : v_M), k5 x1 x2 x3 x4 M = some out → v_fr [99, 100] [] M out.2) (h : f_X12_lets_L163 N k5 x1 x2 x3 x4 t0 t1 M = some out) : v_fr [99, 100] [] M out.2 := by
  have fM : v_fr [99, 100] [] M M := v_frR
  unfold f_X12_lets_L163 at h
  obtain ⟨hb, h⟩ := v_ckS h
  obtain ⟨M1, eM1, h⟩ := v_ltM h
  have fM1 : v_fr [99, 100] [] M M1 := by rw [eM1]; exact v_frw (by simp) fM
  rcases v_iteS h with ⟨c, h⟩ | ⟨c, h⟩
  · exact v_frT fM1 (fw_X12_lets_L211 hk5 h)
  · obtain ⟨hb, h⟩ := v_ckS h
    obtain ⟨hb, h⟩ := v_ckS h
    rcases v_iteS h with ⟨c, h⟩ | ⟨c, h⟩
    · exact v_frT fM1 (fw_X12_lets_L207 hk5 h)
    · obtain ⟨hb, h⟩ := v_ckS h
      rcases v_iteS h with ⟨c, h⟩ | ⟨c, h⟩
      · obtain ⟨hb, h⟩ := v_ckS h
        rcases v_iteS h with ⟨c, h⟩ | ⟨c, h⟩
        · exact v_frT fM1 (fw_X12_lets_L211 hk5 h)
        · exact v_frT fM1 (fw_X12_lets_L207 hk5 h)
      · exact v_frT fM1 (fw_X12_lets_L211 hk5 h)
theorem fw_X12_lets_L136 {N : Nat} {x1 : Int32} {x2 : Int32} {x3 : Int32} {x4 : Int32} {t0 : Int32} {M : v_M} {out : Int32 × v_M} {k5 : Int32 → Int32 → Int32 → Int32 → v_M → Option (Int32 × v_M)} (hk5 : ∀ (x1 : Int32) (x2 : Int32) (x3 : Int32) (x4 : Int32) (M : v_M), k5 x1 x2 x3 x4 M = some out → v_fr [99, 100] [] M out.2) (h : f_X12_lets_L136 N k5 x1 x2 x3 x4 t0 M = some out) : v_fr [99, 100] [] M out.2 := by
  have fM : v_fr [99, 100] [] M M := v_frR
  unfold f_X12_lets_L136 at h
  obtain ⟨hb, h⟩ := v_ckS h
  obtain ⟨y1, ey1, h⟩ := v_ltM h
  rcases v_iteS h with ⟨c, h⟩ | ⟨c, h⟩
  · exact v_frT fM (fw_X12_lets_L163 hk5 h)
  · exact v_frT fM (fw_X12_lets_L163 hk5 h)
theorem fw_X12_lets_L101 {N : Nat} {x1 : Int32} {x2 : Int32} {x3 : Int32} {x4 : Int32} {t0 : Int32} {t1 : Int32} {M : v_M} {out : Int32 × v_M} {k5 : Int32 → Int32 → Int32 → Int32 → v_M → Option (Int32 × v_M)} (hk5 : ∀ (x1 : Int32) (x2 : Int32) (x3 : Int32) (x4 : Int32) (M : v_M), k5 x1 x2 x3 x4 M = some out → v_fr [99, 100] [] M out.2) (h : f_X12_lets_L101 N k5 x1 x2 x3 x4 t0 t1 M = some out) : v_fr [99, 100] [] M out.2 := by
  have fM : v_fr [99, 100] [] M M := v_frR
  unfold f_X12_lets_L101 at h
  obtain ⟨hb, h⟩ := v_ckS h
  obtain ⟨M1, eM1, h⟩ := v_ltM h
  have fM1 : v_fr [99, 100] [] M M1 := by rw [eM1]; exact v_frw (by simp) fM
  obtain ⟨hb, h⟩ := v_ckS h
  obtain ⟨hb, h⟩ := v_ckS h
  rcases v_iteS h with ⟨c, h⟩ | ⟨c, h⟩
  · obtain ⟨hb, h⟩ := v_ckS h
    exact v_frT fM1 (fw_X12_lets_L136 hk5 h)
  · obtain ⟨hb, h⟩ := v_ckS h
    exact v_frT fM1 (fw_X12_lets_L136 hk5 h)
theorem fw_X12_lets_L51 {N : Nat} {x1 : Int32} {x2 : Int32} {x3 : Int32} {x4 : Int32} {t0 : Int32} {M : v_M} {out : Int32 × v_M} {k5 : Int32 → Int32 → Int32 → Int32 → v_M → Option (Int32 × v_M)} (hk5 : ∀ (x1 : Int32) (x2 : Int32) (x3 : Int32) (x4 : Int32) (M : v_M), k5 x1 x2 x3 x4 M = some out → v_fr [99, 100] [] M out.2) (h : f_X12_lets_L51 N k5 x1 x2 x3 x4 t0 M = some out) : v_fr [99, 100] [] M out.2 := by
  have fM : v_fr [99, 100] [] M M := v_frR
  unfold f_X12_lets_L51 at h
  rcases v_iteS h with ⟨c, h⟩ | ⟨c, h⟩
  · exact v_frT fM (fw_X12_lets_L101 hk5 h)
  · rcases v_iteS h with ⟨c, h⟩ | ⟨c, h⟩
    · obtain ⟨hb, h⟩ := v_ckS h
      obtain ⟨hb, h⟩ := v_ckS h
      obtain ⟨hb, h⟩ := v_ckS h
      obtain ⟨hb, h⟩ := v_ckS h
      obtain ⟨hb, h⟩ := v_ckS h
      exact v_frT fM (fw_X12_lets_L101 hk5 h)
    · exact v_frT fM (fw_X12_lets_L101 hk5 h)
theorem fv_X12_lets_L5 {N : Nat} {out : Int32 × v_M} (n : Nat) : ∀ (x1 : Int32) (x2 : Int32) (x3 : Int32) (x4 : Int32) (M : v_M), f_X12_lets_L5 N n x1 x2 x3 x4 M = some out → v_fr [99, 100] [] M out.2 := by
  induction n with
  | zero => intro x1 x2 x3 x4 M h; rw [f_X12_lets_L5] at h; cases h
  | succ n ih =>
    intro x1 x2 x3 x4 M h
    have fM : v_fr [99, 100] [] M M := v_frR
    rw [f_X12_lets_L5] at h
    rcases v_iteS h with ⟨c, h⟩ | ⟨c, h⟩
    · obtain ⟨hb, h⟩ := v_ckS h
      have h := Option.some.inj h
      subst h
      exact fM
    · rcases v_iteS h with ⟨c, h⟩ | ⟨c, h⟩
      · exact v_frT fM (fw_X12_lets_L51 ih h)
      · obtain ⟨hb, h⟩ := v_ckS h
        obtain ⟨hb, h⟩ := v_ckS h
        obtain ⟨hb, h⟩ := v_ckS h
        obtain ⟨hb, h⟩ := v_ckS h
        exact v_frT fM (fw_X12_lets_L51 ih h)
theorem fw_X12_lets_L5 {N n : Nat} {x1 : Int32} {x2 : Int32} {x3 : Int32} {x4 : Int32} {M : v_M} {out : Int32 × v_M} (h : f_X12_lets_L5 N n x1 x2 x3 x4 M = some out) : v_fr [99, 100] [] M out.2 := fv_X12_lets_L5 n x1 x2 x3 x4 M h
theorem fr_X12_lets {N : Nat} {x1 : Int32} {x2 : Int32} {M : v_M} {out : Int32 × v_M} (h : f_X12_lets N x1 x2 M = some out) : v_fr [99, 100] [] M out.2 := by
  have fM : v_fr [99, 100] [] M M := v_frR
  unfold f_X12_lets at h
  exact v_frT fM (fw_X12_lets_L5 h)
theorem fw_X12_pushes_L43 {N : Nat} {x2 : Int32} {x3 : Int32} {x4 : Int32} {M : v_M} {out : Int32 × v_M} {k5 : Int32 → Int32 → Int32 → v_M → Option (Int32 × v_M)} (hk5 : ∀ (x2 : Int32) (x3 : Int32) (x4 : Int32) (M : v_M), k5 x2 x3 x4 M = some out → v_fr [99, 100] [] M out.2) (h : f_X12_pushes_L43 N k5 x2 x3 x4 M = some out) : v_fr [99, 100] [] M out.2 := by
  have fM : v_fr [99, 100] [] M M := v_frR
  unfold f_X12_pushes_L43 at h
  exact v_frT fM (hk5 _ _ _ _ h)
theorem fv_X12_pushes_L5 {N : Nat} {out : Int32 × v_M} (n : Nat) : ∀ (x2 : Int32) (x3 : Int32) (x4 : Int32) (M : v_M), f_X12_pushes_L5 N n x2 x3 x4 M = some out → v_fr [99, 100] [] M out.2 := by
  induction n with
  | zero => intro x2 x3 x4 M h; rw [f_X12_pushes_L5] at h; cases h
  | succ n ih =>
    intro x2 x3 x4 M h
    have fM : v_fr [99, 100] [] M M := v_frR
    rw [f_X12_pushes_L5] at h
    rcases v_iteS h with ⟨c, h⟩ | ⟨c, h⟩
    · obtain ⟨z1, hz1, h⟩ := v_bdS h
      have fz1 : v_fr [99, 100] [] M z1.2 := v_frt (by simp) (by simp) fM (fr_X12_lets hz1)
      have h := Option.some.inj h
      subst h
      exact fz1
    · obtain ⟨hb, h⟩ := v_ckS h
      obtain ⟨y2, ey2, h⟩ := v_ltM h
      obtain ⟨z3, hz3, h⟩ := v_bdS h
      have fz3 : v_fr [99, 100] [] M z3.2 := v_frt (by simp) (by simp) fM (fr_X12_lets hz3)
      rcases v_iteS h with ⟨c, h⟩ | ⟨c, h⟩
      · obtain ⟨y4, ey4, h⟩ := v_ltM h
        exact v_frT fz3 (fw_X12_pushes_L43 ih h)
      · exact v_frT fz3 (fw_X12_pushes_L43 ih h)
theorem fw_X12_pushes_L5 {N n : Nat} {x2 : Int32} {x3 : Int32} {x4 : Int32} {M : v_M} {out : Int32 × v_M} (h : f_X12_pushes_L5 N n x2 x3 x4 M = some out) : v_fr [99, 100] [] M out.2 := fv_X12_pushes_L5 n x2 x3 x4 M h
theorem fr_X12_pushes {N : Nat} {x1 : Int32} {x2 : Int32} {M : v_M} {out : Int32 × v_M} (h : f_X12_pushes N x1 x2 M = some out) : v_fr [99, 100] [] M out.2 := by
  have fM : v_fr [99, 100] [] M M := v_frR
  unfold f_X12_pushes at h
  exact v_frT fM (fw_X12_pushes_L5 h)
theorem fw_X12_push_L168 {N : Nat} {x1 : Int32} {x4 : Int32} {x5 : Int32} {t0 : Int32} {t1 : Int32} {M : v_M} {out : Int32 × v_M} {k57 : Int32 → Int32 → Int32 → v_M → Option (Int32 × v_M)} (hk57 : ∀ (x1 : Int32) (x4 : Int32) (x5 : Int32) (M : v_M), k57 x1 x4 x5 M = some out → v_fr [90, 91, 94, 95, 96, 97, 98, 99, 100] [] M out.2) (h : f_X12_push_L168 N k57 x1 x4 x5 t0 t1 M = some out) : v_fr [90, 91, 94, 95, 96, 97, 98, 99, 100] [] M out.2 := by
  have fM : v_fr [90, 91, 94, 95, 96, 97, 98, 99, 100] [] M M := v_frR
  unfold f_X12_push_L168 at h
  obtain ⟨hb, h⟩ := v_ckS h
  obtain ⟨M1, eM1, h⟩ := v_ltM h
  have fM1 : v_fr [90, 91, 94, 95, 96, 97, 98, 99, 100] [] M M1 := by rw [eM1]; exact v_frw (by simp) fM
  exact v_frT fM1 (hk57 _ _ _ _ h)
theorem fw_X12_push_L143 {N : Nat} {x1 : Int32} {x4 : Int32} {x5 : Int32} {x6 : Int32} {t0 : Int32} {t1 : Int32} {M : v_M} {out : Int32 × v_M} {k57 : Int32 → Int32 → Int32 → v_M → Option (Int32 × v_M)} (hk57 : ∀ (x1 : Int32) (x4 : Int32) (x5 : Int32) (M : v_M), k57 x1 x4 x5 M = some out → v_fr [90, 91, 94, 95, 96, 97, 98, 99, 100] [] M out.2) (h : f_X12_push_L143 N k57 x1 x4 x5 x6 t0 t1 M = some out) : v_fr [90, 91, 94, 95, 96, 97, 98, 99, 100] [] M out.2 := by
  have fM : v_fr [90, 91, 94, 95, 96, 97, 98, 99, 100] [] M M := v_frR
  unfold f_X12_push_L143 at h
  obtain ⟨y1, ey1, h⟩ := v_ltM h
  rcases v_iteS h with ⟨c, h⟩ | ⟨c, h⟩
  · exact v_frT fM (fw_X12_push_L168 hk57 h)
  · exact v_frT fM (fw_X12_push_L168 hk57 h)
theorem fw_X12_push_L142 {N : Nat} {x1 : Int32} {x4 : Int32} {x5 : Int32} {x6 : Int32} {t0 : Int32} {M : v_M} {out : Int32 × v_M} {k57 : Int32 → Int32 → Int32 → v_M → Option (Int32 × v_M)} (hk57 : ∀ (x1 : Int32) (x4 : Int32) (x5 : Int32) (M : v_M), k57 x1 x4 x5 M = some out → v_fr [90, 91, 94, 95, 96, 97, 98, 99, 100] [] M out.2) (h : f_X12_push_L142 N k57 x1 x4 x5 x6 t0 M = some out) : v_fr [90, 91, 94, 95, 96, 97, 98, 99, 100] [] M out.2 := by
  have fM : v_fr [90, 91, 94, 95, 96, 97, 98, 99, 100] [] M M := v_frR
  unfold f_X12_push_L142 at h
  exact v_frT fM (fw_X12_push_L143 hk57 h)
theorem fv_X12_push_L57 {N : Nat} {out : Int32 × v_M} (n : Nat) : ∀ (x1 : Int32) (x4 : Int32) (x5 : Int32) (M : v_M), f_X12_push_L57 N n x1 x4 x5 M = some out → v_fr [90, 91, 94, 95, 96, 97, 98, 99, 100] [] M out.2 := by
  induction n with
  | zero => intro x1 x4 x5 M h; rw [f_X12_push_L57] at h; cases h
  | succ n ih =>
    intro x1 x4 x5 M h
    have fM : v_fr [90, 91, 94, 95, 96, 97, 98, 99, 100] [] M M := v_frR
    rw [f_X12_push_L57] at h
    rcases v_iteS h with ⟨c, h⟩ | ⟨c, h⟩
    · have h := Option.some.inj h
      subst h
      exact fM
    · obtain ⟨y1, ey1, h⟩ := v_ltM h
      obtain ⟨hb, h⟩ := v_ckS h
      obtain ⟨hb, h⟩ := v_ckS h
      obtain ⟨M2, eM2, h⟩ := v_ltM h
      have fM2 : v_fr [90, 91, 94, 95, 96, 97, 98, 99, 100] [] M M2 := by rw [eM2]; exact v_frw (by simp) fM
      obtain ⟨hb, h⟩ := v_ckS h
      obtain ⟨hb, h⟩ := v_ckS h
      rcases v_iteS h with ⟨c, h⟩ | ⟨c, h⟩
      · obtain ⟨hb, h⟩ := v_ckS h
        obtain ⟨hb, h⟩ := v_ckS h
        rcases v_iteS h with ⟨c, h⟩ | ⟨c, h⟩
        · exact v_frT fM2 (fw_X12_push_L142 ih h)
        · obtain ⟨hb, h⟩ := v_ckS h
          obtain ⟨hb, h⟩ := v_ckS h
          exact v_frT fM2 (fw_X12_push_L143 ih h)
      · exact v_frT fM2 (fw_X12_push_L142 ih h)
theorem fw_X12_push_L57 {N n : Nat} {x1 : Int32} {x4 : Int32} {x5 : Int32} {M : v_M} {out : Int32 × v_M} (h : f_X12_push_L57 N n x1 x4 x5 M = some out) : v_fr [90, 91, 94, 95, 96, 97, 98, 99, 100] [] M out.2 := fv_X12_push_L57 n x1 x4 x5 M h
theorem fr_X12_push {N : Nat} {x1 : Int32} {x2 : Int32} {x3 : Int32} {M : v_M} {out : Int32 × v_M} (h : f_X12_push N x1 x2 x3 M = some out) : v_fr [90, 91, 94, 95, 96, 97, 98, 99, 100] [] M out.2 := by
  have fM : v_fr [90, 91, 94, 95, 96, 97, 98, 99, 100] [] M M := v_frR
  unfold f_X12_push at h
  obtain ⟨z1, hz1, h⟩ := v_bdS h
  have fz1 : v_fr [90, 91, 94, 95, 96, 97, 98, 99, 100] [] M z1.2 := v_frt (by simp) (by simp) fM (fr_X12_isMachine hz1)
  rcases v_iteS h with ⟨c, h⟩ | ⟨c, h⟩
  · have h := Option.some.inj h
    subst h
    exact fz1
  · rcases v_iteS h with ⟨c, h⟩ | ⟨c, h⟩
    · have h := Option.some.inj h
      subst h
      exact fz1
    · obtain ⟨z2, hz2, h⟩ := v_bdS h
      have fz2 : v_fr [90, 91, 94, 95, 96, 97, 98, 99, 100] [] M z2.2 := v_frt (by simp) (by simp) fz1 (fr_X12_in hz2)
      rcases v_iteS h with ⟨c, h⟩ | ⟨c, h⟩
      · have h := Option.some.inj h
        subst h
        exact fz2
      · obtain ⟨z3, hz3, h⟩ := v_bdS h
        have fz3 : v_fr [90, 91, 94, 95, 96, 97, 98, 99, 100] [] M z3.2 := v_frt (by simp) (by simp) fz2 (fr_X12_in hz3)
        rcases v_iteS h with ⟨c, h⟩ | ⟨c, h⟩
        · have h := Option.some.inj h
          subst h
          exact fz3
        · obtain ⟨z4, hz4, h⟩ := v_bdS h
          have fz4 : v_fr [90, 91, 94, 95, 96, 97, 98, 99, 100] [] M z4.2 := v_frt (by simp) (by simp) fz3 (fr_X12_takes hz4)
          obtain ⟨z5, hz5, h⟩ := v_bdS h
          have fz5 : v_fr [90, 91, 94, 95, 96, 97, 98, 99, 100] [] M z5.2 := v_frt (by simp) (by simp) fz4 (fr_X12_pushes hz5)
          obtain ⟨y6, ey6, h⟩ := v_ltM h
          exact v_frT fz5 (fw_X12_push_L57 h)
theorem fv_X12_release_L12 {N : Nat} {out : Int32 × v_M} (n : Nat) : ∀ (x1 : Int32) (x2 : Int32) (M : v_M), f_X12_release_L12 N n x1 x2 M = some out → v_fr [91] [] M out.2 := by
  induction n with
  | zero => intro x1 x2 M h; rw [f_X12_release_L12] at h; cases h
  | succ n ih =>
    intro x1 x2 M h
    have fM : v_fr [91] [] M M := v_frR
    rw [f_X12_release_L12] at h
    rcases v_iteS h with ⟨c, h⟩ | ⟨c, h⟩
    · obtain ⟨hb, h⟩ := v_ckS h
      have h := Option.some.inj h
      subst h
      exact fM
    · obtain ⟨hb, h⟩ := v_ckS h
      obtain ⟨M1, eM1, h⟩ := v_ltM h
      have fM1 : v_fr [91] [] M M1 := by rw [eM1]; exact v_frw (by simp) fM
      exact v_frT fM1 (ih _ _ _ h)
theorem fw_X12_release_L12 {N n : Nat} {x1 : Int32} {x2 : Int32} {M : v_M} {out : Int32 × v_M} (h : f_X12_release_L12 N n x1 x2 M = some out) : v_fr [91] [] M out.2 := fv_X12_release_L12 n x1 x2 M h
theorem fr_X12_release {N : Nat} {x1 : Int32} {M : v_M} {out : Int32 × v_M} (h : f_X12_release N x1 M = some out) : v_fr [91] [] M out.2 := by
  have fM : v_fr [91] [] M M := v_frR
  unfold f_X12_release at h
  obtain ⟨z1, hz1, h⟩ := v_bdS h
  have fz1 : v_fr [91] [] M z1.2 := v_frt (by simp) (by simp) fM (fr_X12_isMachine hz1)
  rcases v_iteS h with ⟨c, h⟩ | ⟨c, h⟩
  · obtain ⟨hb, h⟩ := v_ckS h
    have h := Option.some.inj h
    subst h
    exact fz1
  · exact v_frT fz1 (fw_X12_release_L12 h)
theorem fw_X12_isOver_L24 {N : Nat} {x1 : Int32} {t0 : Int32} {M : v_M} {out : Int32 × v_M} (h : f_X12_isOver_L24 N x1 t0 M = some out) : v_fr [] [] M out.2 := by
  have fM : v_fr [] [] M M := v_frR
  unfold f_X12_isOver_L24 at h
  obtain ⟨hb, h⟩ := v_ckS h
  obtain ⟨hb, h⟩ := v_ckS h
  rcases v_iteS h with ⟨c, h⟩ | ⟨c, h⟩
  · obtain ⟨hb, h⟩ := v_ckS h
    have h := Option.some.inj h
    subst h
    exact fM
  · obtain ⟨hb, h⟩ := v_ckS h
    have h := Option.some.inj h
    subst h
    exact fM
theorem fr_X12_isOver {N : Nat} {x1 : Int32} {M : v_M} {out : Int32 × v_M} (h : f_X12_isOver N x1 M = some out) : v_fr [] [] M out.2 := by
  have fM : v_fr [] [] M M := v_frR
  unfold f_X12_isOver at h
  obtain ⟨hb, h⟩ := v_ckS h
  rcases v_iteS h with ⟨c, h⟩ | ⟨c, h⟩
  · obtain ⟨hb, h⟩ := v_ckS h
    exact v_frT fM (fw_X12_isOver_L24 h)
  · exact v_frT fM (fw_X12_isOver_L24 h)
theorem fr_X12_state {N : Nat} {x1 : Int32} {x2 : Int32} {x3 : Int32} {M : v_M} {out : Int32 × v_M} (h : f_X12_state N x1 x2 x3 M = some out) : v_fr [94, 95, 96, 97, 98, 99] [] M out.2 := by
  have fM : v_fr [94, 95, 96, 97, 98, 99] [] M M := v_frR
  unfold f_X12_state at h
  obtain ⟨z1, hz1, h⟩ := v_bdS h
  have fz1 : v_fr [94, 95, 96, 97, 98, 99] [] M z1.2 := v_frt (by simp) (by simp) fM (fr_X12_isMachine hz1)
  rcases v_iteS h with ⟨c, h⟩ | ⟨c, h⟩
  · have h := Option.some.inj h
    subst h
    exact fz1
  · obtain ⟨z2, hz2, h⟩ := v_bdS h
    have fz2 : v_fr [94, 95, 96, 97, 98, 99] [] M z2.2 := v_frt (by simp) (by simp) fz1 (fr_X12_isPart hz2)
    rcases v_iteS h with ⟨c, h⟩ | ⟨c, h⟩
    · have h := Option.some.inj h
      subst h
      exact fz2
    · obtain ⟨y3, ey3, h⟩ := v_ltM h
      by_cases c0 : x3 = (0 : Int32)
      · rw [if_pos c0] at h
        obtain ⟨hb, h⟩ := v_ckS h
        have h := Option.some.inj h
        subst h
        exact fz2
      · rw [if_neg c0] at h
        by_cases c1 : x3 = (1 : Int32)
        · rw [if_pos c1] at h
          obtain ⟨hb, h⟩ := v_ckS h
          have h := Option.some.inj h
          subst h
          exact fz2
        · rw [if_neg c1] at h
          by_cases c2 : x3 = (2 : Int32)
          · rw [if_pos c2] at h
            obtain ⟨hb, h⟩ := v_ckS h
            have h := Option.some.inj h
            subst h
            exact fz2
          · rw [if_neg c2] at h
            by_cases c3 : x3 = (3 : Int32)
            · rw [if_pos c3] at h
              obtain ⟨hb, h⟩ := v_ckS h
              have h := Option.some.inj h
              subst h
              exact fz2
            · rw [if_neg c3] at h
              by_cases c4 : x3 = (4 : Int32)
              · rw [if_pos c4] at h
                obtain ⟨z4, hz4, h⟩ := v_bdS h
                have fz4 : v_fr [94, 95, 96, 97, 98, 99] [] M z4.2 := v_frt (by simp) (by simp) fz2 (fr_X12_takes hz4)
                obtain ⟨z5, hz5, h⟩ := v_bdS h
                have fz5 : v_fr [94, 95, 96, 97, 98, 99] [] M z5.2 := v_frt (by simp) (by simp) fz4 (fr_X12_isOver hz5)
                rcases v_iteS h with ⟨c, h⟩ | ⟨c, h⟩
                · have h := Option.some.inj h
                  subst h
                  exact fz5
                · have h := Option.some.inj h
                  subst h
                  exact fz5
              · rw [if_neg c4] at h
                have h := Option.some.inj h
                subst h
                exact fz2
theorem fw_X12_isShut_L61 {N : Nat} {x1 : Int32} {x3 : Int32} {t0 : Int32} {M : v_M} {out : Int32 × v_M} {k6 : Int32 → Int32 → Int32 → v_M → Option (Int32 × v_M)} (hk6 : ∀ (x1 : Int32) (x2 : Int32) (x3 : Int32) (M : v_M), k6 x1 x2 x3 M = some out → v_fr [] [] M out.2) (h : f_X12_isShut_L61 N k6 x1 x3 t0 M = some out) : v_fr [] [] M out.2 := by
  have fM : v_fr [] [] M M := v_frR
  unfold f_X12_isShut_L61 at h
  exact v_frT fM (hk6 _ _ _ _ h)
theorem fw_X12_isShut_L60 {N : Nat} {x1 : Int32} {x3 : Int32} {M : v_M} {out : Int32 × v_M} {k6 : Int32 → Int32 → Int32 → v_M → Option (Int32 × v_M)} (hk6 : ∀ (x1 : Int32) (x2 : Int32) (x3 : Int32) (M : v_M), k6 x1 x2 x3 M = some out → v_fr [] [] M out.2) (h : f_X12_isShut_L60 N k6 x1 x3 M = some out) : v_fr [] [] M out.2 := by
  have fM : v_fr [] [] M M := v_frR
  unfold f_X12_isShut_L60 at h
  exact v_frT fM (fw_X12_isShut_L61 hk6 h)
theorem fw_X12_isShut_L56 {N : Nat} {x1 : Int32} {x3 : Int32} {M : v_M} {out : Int32 × v_M} {k6 : Int32 → Int32 → Int32 → v_M → Option (Int32 × v_M)} (hk6 : ∀ (x1 : Int32) (x2 : Int32) (x3 : Int32) (M : v_M), k6 x1 x2 x3 M = some out → v_fr [] [] M out.2) (h : f_X12_isShut_L56 N k6 x1 x3 M = some out) : v_fr [] [] M out.2 := by
  have fM : v_fr [] [] M M := v_frR
  unfold f_X12_isShut_L56 at h
  exact v_frT fM (fw_X12_isShut_L61 hk6 h)
theorem fw_X12_isShut_L33 {N : Nat} {x2 : Int32} {x3 : Int32} {t0 : Int32} {M : v_M} {out : Int32 × v_M} {k6 : Int32 → Int32 → Int32 → v_M → Option (Int32 × v_M)} (hk6 : ∀ (x1 : Int32) (x2 : Int32) (x3 : Int32) (M : v_M), k6 x1 x2 x3 M = some out → v_fr [] [] M out.2) (h : f_X12_isShut_L33 N k6 x2 x3 t0 M = some out) : v_fr [] [] M out.2 := by
  have fM : v_fr [] [] M M := v_frR
  unfold f_X12_isShut_L33 at h
  rcases v_iteS h with ⟨c, h⟩ | ⟨c, h⟩
  · exact v_frT fM (fw_X12_isShut_L60 hk6 h)
  · obtain ⟨hb, h⟩ := v_ckS h
    rcases v_iteS h with ⟨c, h⟩ | ⟨c, h⟩
    · obtain ⟨z1, hz1, h⟩ := v_bdS h
      have fz1 : v_fr [] [] M z1.2 := v_frt (by simp) (by simp) fM (fr_X12_isOver hz1)
      rcases v_iteS h with ⟨c, h⟩ | ⟨c, h⟩
      · exact v_frT fz1 (fw_X12_isShut_L60 hk6 h)
      · exact v_frT fz1 (fw_X12_isShut_L56 hk6 h)
    · exact v_frT fM (fw_X12_isShut_L56 hk6 h)
theorem fw_X12_isShut_L28 {N : Nat} {x2 : Int32} {x3 : Int32} {M : v_M} {out : Int32 × v_M} {k6 : Int32 → Int32 → Int32 → v_M → Option (Int32 × v_M)} (hk6 : ∀ (x1 : Int32) (x2 : Int32) (x3 : Int32) (M : v_M), k6 x1 x2 x3 M = some out → v_fr [] [] M out.2) (h : f_X12_isShut_L28 N k6 x2 x3 M = some out) : v_fr [] [] M out.2 := by
  have fM : v_fr [] [] M M := v_frR
  unfold f_X12_isShut_L28 at h
  exact v_frT fM (fw_X12_isShut_L33 hk6 h)
theorem fv_X12_isShut_L6 {N : Nat} {out : Int32 × v_M} (n : Nat) : ∀ (x1 : Int32) (x2 : Int32) (x3 : Int32) (M : v_M), f_X12_isShut_L6 N n x1 x2 x3 M = some out → v_fr [] [] M out.2 := by
  induction n with
  | zero => intro x1 x2 x3 M h; rw [f_X12_isShut_L6] at h; cases h
  | succ n ih =>
    intro x1 x2 x3 M h
    have fM : v_fr [] [] M M := v_frR
    rw [f_X12_isShut_L6] at h
    rcases v_iteS h with ⟨c, h⟩ | ⟨c, h⟩
    · rcases v_iteS h with ⟨c, h⟩ | ⟨c, h⟩
      · obtain ⟨hb, h⟩ := v_ckS h
        have h := Option.some.inj h
        subst h
        exact fM
      · rcases v_iteS h with ⟨c, h⟩ | ⟨c, h⟩
        · obtain ⟨hb, h⟩ := v_ckS h
          have h := Option.some.inj h
          subst h
          exact fM
        · obtain ⟨hb, h⟩ := v_ckS h
          have h := Option.some.inj h
          subst h
          exact fM
    · rcases v_iteS h with ⟨c, h⟩ | ⟨c, h⟩
      · obtain ⟨hb, h⟩ := v_ckS h
        rcases v_iteS h with ⟨c, h⟩ | ⟨c, h⟩
        · exact v_frT fM (fw_X12_isShut_L28 ih h)
        · exact v_frT fM (fw_X12_isShut_L33 ih h)
      · exact v_frT fM (fw_X12_isShut_L28 ih h)
theorem fw_X12_isShut_L6 {N n : Nat} {x1 : Int32} {x2 : Int32} {x3 : Int32} {M : v_M} {out : Int32 × v_M} (h : f_X12_isShut_L6 N n x1 x2 x3 M = some out) : v_fr [] [] M out.2 := fv_X12_isShut_L6 n x1 x2 x3 M h
theorem fr_X12_isShut {N : Nat} {M : v_M} {out : Int32 × v_M} (h : f_X12_isShut N M = some out) : v_fr [] [] M out.2 := by
  have fM : v_fr [] [] M M := v_frR
  unfold f_X12_isShut at h
  exact v_frT fM (fw_X12_isShut_L6 h)
theorem fr_X12_lookedBy {N : Nat} {x0 : Int32} {M : v_M} {out : Int32 × v_M} (h : f_X12_lookedBy N x0 M = some out) : v_fr [] [] M out.2 := by
  have fM : v_fr [] [] M M := v_frR
  unfold f_X12_lookedBy at h
  rcases v_iteS h with ⟨c, h⟩ | ⟨c, h⟩
  · have h := Option.some.inj h
    subst h
    exact fM
  · rcases v_iteS h with ⟨c, h⟩ | ⟨c, h⟩
    · have h := Option.some.inj h
      subst h
      exact fM
    · rcases v_iteS h with ⟨c, h⟩ | ⟨c, h⟩
      · have h := Option.some.inj h
        subst h
        exact fM
      · rcases v_iteS h with ⟨c, h⟩ | ⟨c, h⟩
        · have h := Option.some.inj h
          subst h
          exact fM
        · have h := Option.some.inj h
          subst h
          exact fM
theorem fw_X12_looksSo_L43 {N : Nat} {x1 : Int32} {x3 : Int32} {t0 : Int32} {M : v_M} {out : Int32 × v_M} {k4 : Int32 → Int32 → Int32 → v_M → Option (Int32 × v_M)} (hk4 : ∀ (x1 : Int32) (x2 : Int32) (x3 : Int32) (M : v_M), k4 x1 x2 x3 M = some out → v_fr [] [] M out.2) (h : f_X12_looksSo_L43 N k4 x1 x3 t0 M = some out) : v_fr [] [] M out.2 := by
  have fM : v_fr [] [] M M := v_frR
  unfold f_X12_looksSo_L43 at h
  exact v_frT fM (hk4 _ _ _ _ h)
theorem fw_X12_looksSo_L42 {N : Nat} {x1 : Int32} {x3 : Int32} {M : v_M} {out : Int32 × v_M} {k4 : Int32 → Int32 → Int32 → v_M → Option (Int32 × v_M)} (hk4 : ∀ (x1 : Int32) (x2 : Int32) (x3 : Int32) (M : v_M), k4 x1 x2 x3 M = some out → v_fr [] [] M out.2) (h : f_X12_looksSo_L42 N k4 x1 x3 M = some out) : v_fr [] [] M out.2 := by
  have fM : v_fr [] [] M M := v_frR
  unfold f_X12_looksSo_L42 at h
  exact v_frT fM (fw_X12_looksSo_L43 hk4 h)
theorem fw_X12_looksSo_L38 {N : Nat} {x1 : Int32} {x3 : Int32} {M : v_M} {out : Int32 × v_M} {k4 : Int32 → Int32 → Int32 → v_M → Option (Int32 × v_M)} (hk4 : ∀ (x1 : Int32) (x2 : Int32) (x3 : Int32) (M : v_M), k4 x1 x2 x3 M = some out → v_fr [] [] M out.2) (h : f_X12_looksSo_L38 N k4 x1 x3 M = some out) : v_fr [] [] M out.2 := by
  have fM : v_fr [] [] M M := v_frR
  unfold f_X12_looksSo_L38 at h
  exact v_frT fM (fw_X12_looksSo_L43 hk4 h)
theorem fv_X12_looksSo_L4 {N : Nat} {out : Int32 × v_M} (n : Nat) : ∀ (x1 : Int32) (x2 : Int32) (x3 : Int32) (M : v_M), f_X12_looksSo_L4 N n x1 x2 x3 M = some out → v_fr [] [] M out.2 := by
  induction n with
  | zero => intro x1 x2 x3 M h; rw [f_X12_looksSo_L4] at h; cases h
  | succ n ih =>
    intro x1 x2 x3 M h
    have fM : v_fr [] [] M M := v_frR
    rw [f_X12_looksSo_L4] at h
    rcases v_iteS h with ⟨c, h⟩ | ⟨c, h⟩
    · obtain ⟨hb, h⟩ := v_ckS h
      have h := Option.some.inj h
      subst h
      exact fM
    · rcases v_iteS h with ⟨c, h⟩ | ⟨c, h⟩
      · exact v_frT fM (fw_X12_looksSo_L42 ih h)
      · obtain ⟨hb, h⟩ := v_ckS h
        obtain ⟨z1, hz1, h⟩ := v_bdS h
        have fz1 : v_fr [] [] M z1.2 := v_frt (by simp) (by simp) fM (fr_X12_lookedBy hz1)
        rcases v_iteS h with ⟨c, h⟩ | ⟨c, h⟩
        · exact v_frT fz1 (fw_X12_looksSo_L38 ih h)
        · obtain ⟨z2, hz2, h⟩ := v_bdS h
          have fz2 : v_fr [] [] M z2.2 := v_frt (by simp) (by simp) fz1 (fr_X12_isOver hz2)
          rcases v_iteS h with ⟨c, h⟩ | ⟨c, h⟩
          · exact v_frT fz2 (fw_X12_looksSo_L42 ih h)
          · exact v_frT fz2 (fw_X12_looksSo_L38 ih h)
theorem fw_X12_looksSo_L4 {N n : Nat} {x1 : Int32} {x2 : Int32} {x3 : Int32} {M : v_M} {out : Int32 × v_M} (h : f_X12_looksSo_L4 N n x1 x2 x3 M = some out) : v_fr [] [] M out.2 := fv_X12_looksSo_L4 n x1 x2 x3 M h
theorem fr_X12_looksSo {N : Nat} {x1 : Int32} {M : v_M} {out : Int32 × v_M} (h : f_X12_looksSo N x1 M = some out) : v_fr [] [] M out.2 := by
  have fM : v_fr [] [] M M := v_frR
  unfold f_X12_looksSo at h
  exact v_frT fM (fw_X12_looksSo_L4 h)
theorem fr_X12_isUnlike {N : Nat} {x1 : Int32} {M : v_M} {out : Int32 × v_M} (h : f_X12_isUnlike N x1 M = some out) : v_fr [] [] M out.2 := by
  have fM : v_fr [] [] M M := v_frR
  unfold f_X12_isUnlike at h
  obtain ⟨z1, hz1, h⟩ := v_bdS h
  have fz1 : v_fr [] [] M z1.2 := v_frt (by simp) (by simp) fM (fr_X12_looksSo hz1)
  rcases v_iteS h with ⟨c, h⟩ | ⟨c, h⟩
  · obtain ⟨hb, h⟩ := v_ckS h
    have h := Option.some.inj h
    subst h
    exact fz1
  · obtain ⟨z2, hz2, h⟩ := v_bdS h
    have fz2 : v_fr [] [] M z2.2 := v_frt (by simp) (by simp) fz1 (fr_X12_isShut hz2)
    rcases v_iteS h with ⟨c, h⟩ | ⟨c, h⟩
    · obtain ⟨hb, h⟩ := v_ckS h
      have h := Option.some.inj h
      subst h
      exact fz2
    · obtain ⟨hb, h⟩ := v_ckS h
      have h := Option.some.inj h
      subst h
      exact fz2
theorem fw_X12_judged_L68 {N : Nat} {t0 : Int32} {M : v_M} {out : Int32 × v_M} (h : f_X12_judged_L68 N t0 M = some out) : v_fr [94, 95, 96, 97, 98, 99] [] M out.2 := by
  have fM : v_fr [94, 95, 96, 97, 98, 99] [] M M := v_frR
  unfold f_X12_judged_L68 at h
  rcases v_iteS h with ⟨c, h⟩ | ⟨c, h⟩
  · have h := Option.some.inj h
    subst h
    exact fM
  · have h := Option.some.inj h
    subst h
    exact fM
theorem fr_X12_judged {N : Nat} {x1 : Int32} {x2 : Int32} {x3 : Int32} {M : v_M} {out : Int32 × v_M} (h : f_X12_judged N x1 x2 x3 M = some out) : v_fr [94, 95, 96, 97, 98, 99] [] M out.2 := by
  have fM : v_fr [94, 95, 96, 97, 98, 99] [] M M := v_frR
  unfold f_X12_judged at h
  obtain ⟨z1, hz1, h⟩ := v_bdS h
  have fz1 : v_fr [94, 95, 96, 97, 98, 99] [] M z1.2 := v_frt (by simp) (by simp) fM (fr_X12_isMachine hz1)
  rcases v_iteS h with ⟨c, h⟩ | ⟨c, h⟩
  · have h := Option.some.inj h
    subst h
    exact fz1
  · obtain ⟨z2, hz2, h⟩ := v_bdS h
    have fz2 : v_fr [94, 95, 96, 97, 98, 99] [] M z2.2 := v_frt (by simp) (by simp) fz1 (fr_X12_in hz2)
    rcases v_iteS h with ⟨c, h⟩ | ⟨c, h⟩
    · have h := Option.some.inj h
      subst h
      exact fz2
    · obtain ⟨z3, hz3, h⟩ := v_bdS h
      have fz3 : v_fr [94, 95, 96, 97, 98, 99] [] M z3.2 := v_frt (by simp) (by simp) fz2 (fr_X12_in hz3)
      rcases v_iteS h with ⟨c, h⟩ | ⟨c, h⟩
      · have h := Option.some.inj h
        subst h
        exact fz3
      · obtain ⟨z4, hz4, h⟩ := v_bdS h
        have fz4 : v_fr [94, 95, 96, 97, 98, 99] [] M z4.2 := v_frt (by simp) (by simp) fz3 (fr_X12_takes hz4)
        rcases v_iteS h with ⟨c, h⟩ | ⟨c, h⟩
        · obtain ⟨z7, hz7, h⟩ := v_bdS h
          have fz7 : v_fr [94, 95, 96, 97, 98, 99] [] M z7.2 := v_frt (by simp) (by simp) fz4 (fr_X12_isShut hz7)
          exact v_frT fz7 (fw_X12_judged_L68 h)
        · rcases v_iteS h with ⟨c, h⟩ | ⟨c, h⟩
          · obtain ⟨z6, hz6, h⟩ := v_bdS h
            have fz6 : v_fr [94, 95, 96, 97, 98, 99] [] M z6.2 := v_frt (by simp) (by simp) fz4 (fr_X12_looksSo hz6)
            exact v_frT fz6 (fw_X12_judged_L68 h)
          · obtain ⟨z5, hz5, h⟩ := v_bdS h
            have fz5 : v_fr [94, 95, 96, 97, 98, 99] [] M z5.2 := v_frt (by simp) (by simp) fz4 (fr_X12_isUnlike hz5)
            exact v_frT fz5 (fw_X12_judged_L68 h)
theorem fw_X12_alters_L119 {N : Nat} {x2 : Int32} {t0 : Int32} {t1 : Int32} {M : v_M} {out : Int32 × v_M} {k87 : Int32 → v_M → Option (Int32 × v_M)} (hk87 : ∀ (x2 : Int32) (M : v_M), k87 x2 M = some out → v_fr [94, 95, 96] [] M out.2) (h : f_X12_alters_L119 N k87 x2 t0 t1 M = some out) : v_fr [94, 95, 96] [] M out.2 := by
  have fM : v_fr [94, 95, 96] [] M M := v_frR
  unfold f_X12_alters_L119 at h
  obtain ⟨hb, h⟩ := v_ckS h
  obtain ⟨M1, eM1, h⟩ := v_ltM h
  have fM1 : v_fr [94, 95, 96] [] M M1 := by rw [eM1]; exact v_frw (by simp) fM
  exact v_frT fM1 (hk87 _ _ h)
theorem fv_X12_alters_L87 {N : Nat} {out : Int32 × v_M} (n : Nat) : ∀ (x2 : Int32) (M : v_M), f_X12_alters_L87 N n x2 M = some out → v_fr [94, 95, 96] [] M out.2 := by
  induction n with
  | zero => intro x2 M h; rw [f_X12_alters_L87] at h; cases h
  | succ n ih =>
    intro x2 M h
    have fM : v_fr [94, 95, 96] [] M M := v_frR
    rw [f_X12_alters_L87] at h
    rcases v_iteS h with ⟨c, h⟩ | ⟨c, h⟩
    · have h := Option.some.inj h
      subst h
      exact fM
    · obtain ⟨hb, h⟩ := v_ckS h
      rcases v_iteS h with ⟨c, h⟩ | ⟨c, h⟩
      · obtain ⟨hb, h⟩ := v_ckS h
        exact v_frT fM (fw_X12_alters_L119 ih h)
      · exact v_frT fM (fw_X12_alters_L119 ih h)
theorem fw_X12_alters_L87 {N n : Nat} {x2 : Int32} {M : v_M} {out : Int32 × v_M} (h : f_X12_alters_L87 N n x2 M = some out) : v_fr [94, 95, 96] [] M out.2 := fv_X12_alters_L87 n x2 M h
theorem fw_X12_alters_L79 {N : Nat} {x1 : Int32} {x2 : Int32} {M : v_M} {out : Int32 × v_M} {k2 : Int32 → Int32 → v_M → Option (Int32 × v_M)} (hk2 : ∀ (x1 : Int32) (x2 : Int32) (M : v_M), k2 x1 x2 M = some out → v_fr [94, 95, 96] [] M out.2) (h : f_X12_alters_L79 N k2 x1 x2 M = some out) : v_fr [94, 95, 96] [] M out.2 := by
  have fM : v_fr [94, 95, 96] [] M M := v_frR
  unfold f_X12_alters_L79 at h
  exact v_frT fM (hk2 _ _ _ h)
theorem fv_X12_alters_L2 {N : Nat} {out : Int32 × v_M} (n : Nat) : ∀ (x1 : Int32) (x2 : Int32) (M : v_M), f_X12_alters_L2 N n x1 x2 M = some out → v_fr [94, 95, 96] [] M out.2 := by
  induction n with
  | zero => intro x1 x2 M h; rw [f_X12_alters_L2] at h; cases h
  | succ n ih =>
    intro x1 x2 M h
    have fM : v_fr [94, 95, 96] [] M M := v_frR
    rw [f_X12_alters_L2] at h
    rcases v_iteS h with ⟨c, h⟩ | ⟨c, h⟩
    · exact v_frT fM (fw_X12_alters_L87 h)
    · rcases v_iteS h with ⟨c, h⟩ | ⟨c, h⟩
      · obtain ⟨hb, h⟩ := v_ckS h
        obtain ⟨hb, h⟩ := v_ckS h
        obtain ⟨hb, h⟩ := v_ckS h
        obtain ⟨hb, h⟩ := v_ckS h
        obtain ⟨M1, eM1, h⟩ := v_ltM h
        have fM1 : v_fr [94, 95, 96] [] M M1 := by rw [eM1]; exact v_frw (by simp) fM
        obtain ⟨hb, h⟩ := v_ckS h
        obtain ⟨hb, h⟩ := v_ckS h
        obtain ⟨hb, h⟩ := v_ckS h
        obtain ⟨hb, h⟩ := v_ckS h
        obtain ⟨M2, eM2, h⟩ := v_ltM h
        have fM2 : v_fr [94, 95, 96] [] M M2 := by rw [eM2]; exact v_frw (by simp) fM1
        obtain ⟨hb, h⟩ := v_ckS h
        obtain ⟨hb, h⟩ := v_ckS h
        obtain ⟨hb, h⟩ := v_ckS h
        obtain ⟨hb, h⟩ := v_ckS h
        obtain ⟨M3, eM3, h⟩ := v_ltM h
        have fM3 : v_fr [94, 95, 96] [] M M3 := by rw [eM3]; exact v_frw (by simp) fM2
        exact v_frT fM3 (fw_X12_alters_L79 ih h)
      · exact v_frT fM (fw_X12_alters_L79 ih h)
theorem fw_X12_alters_L2 {N n : Nat} {x1 : Int32} {x2 : Int32} {M : v_M} {out : Int32 × v_M} (h : f_X12_alters_L2 N n x1 x2 M = some out) : v_fr [94, 95, 96] [] M out.2 := fv_X12_alters_L2 n x1 x2 M h
theorem fr_X12_alters {N : Nat} {x1 : Int32} {M : v_M} {out : Int32 × v_M} (h : f_X12_alters N x1 M = some out) : v_fr [94, 95, 96] [] M out.2 := by
  have fM : v_fr [94, 95, 96] [] M M := v_frR
  unfold f_X12_alters at h
  exact v_frT fM (fw_X12_alters_L2 h)
theorem fw_X12_unlikes_L88 {N : Nat} {x2 : Int32} {x3 : Int32} {x4 : Int32} {x5 : Int32} {x6 : Int32} {x8 : Int32} {x9 : Int32} {x10 : Int32} {x11 : Int32} {M : v_M} {out : Int32 × v_M} {k17 : Int32 → Int32 → Int32 → Int32 → Int32 → Int32 → Int32 → Int32 → v_M → Option (Int32 × v_M)} (hk17 : ∀ (x2 : Int32) (x3 : Int32) (x4 : Int32) (x5 : Int32) (x6 : Int32) (x8 : Int32) (x9 : Int32) (x10 : Int32) (M : v_M), k17 x2 x3 x4 x5 x6 x8 x9 x10 M = some out → v_fr [94, 95, 96, 97, 98, 99, 100] [] M out.2) {k27 : Int32 → Int32 → Int32 → Int32 → Int32 → Int32 → Int32 → Int32 → Int32 → v_M → Option (Int32 × v_M)} (hk27 : ∀ (x2 : Int32) (x3 : Int32) (x4 : Int32) (x5 : Int32) (x6 : Int32) (x8 : Int32) (x9 : Int32) (x10 : Int32) (x11 : Int32) (M : v_M), k27 x2 x3 x4 x5 x6 x8 x9 x10 x11 M = some out → v_fr [94, 95, 96, 97, 98, 99, 100] [] M out.2) (h : f_X12_unlikes_L88 N k17 k27 x2 x3 x4 x5 x6 x8 x9 x10 x11 M = some out) : v_fr [94, 95, 96, 97, 98, 99, 100] [] M out.2 := by
  have fM : v_fr [94, 95, 96, 97, 98, 99, 100] [] M M := v_frR
  unfold f_X12_unlikes_L88 at h
  exact v_frT fM (hk27 _ _ _ _ _ _ _ _ _ _ h)
theorem fv_X12_unlikes_L27 {N : Nat} {out : Int32 × v_M} {k17 : Int32 → Int32 → Int32 → Int32 → Int32 → Int32 → Int32 → Int32 → v_M → Option (Int32 × v_M)} (hk17 : ∀ (x2 : Int32) (x3 : Int32) (x4 : Int32) (x5 : Int32) (x6 : Int32) (x8 : Int32) (x9 : Int32) (x10 : Int32) (M : v_M), k17 x2 x3 x4 x5 x6 x8 x9 x10 M = some out → v_fr [94, 95, 96, 97, 98, 99, 100] [] M out.2) (n : Nat) : ∀ (x2 : Int32) (x3 : Int32) (x4 : Int32) (x5 : Int32) (x6 : Int32) (x8 : Int32) (x9 : Int32) (x10 : Int32) (x11 : Int32) (M : v_M), f_X12_unlikes_L27 N k17 n x2 x3 x4 x5 x6 x8 x9 x10 x11 M = some out → v_fr [94, 95, 96, 97, 98, 99, 100] [] M out.2 := by
  induction n with
  | zero => intro x2 x3 x4 x5 x6 x8 x9 x10 x11 M h; rw [f_X12_unlikes_L27] at h; cases h
  | succ n ih =>
    intro x2 x3 x4 x5 x6 x8 x9 x10 x11 M h
    have fM : v_fr [94, 95, 96, 97, 98, 99, 100] [] M M := v_frR
    rw [f_X12_unlikes_L27] at h
    rcases v_iteS h with ⟨c, h⟩ | ⟨c, h⟩
    · exact v_frT fM (hk17 _ _ _ _ _ _ _ _ _ h)
    · obtain ⟨hb, h⟩ := v_ckS h
      obtain ⟨M1, eM1, h⟩ := v_ltM h
      have fM1 : v_fr [94, 95, 96, 97, 98, 99, 100] [] M M1 := by rw [eM1]; exact v_frw (by simp) fM
      obtain ⟨hb, h⟩ := v_ckS h
      obtain ⟨M2, eM2, h⟩ := v_ltM h
      have fM2 : v_fr [94, 95, 96, 97, 98, 99, 100] [] M M2 := by rw [eM2]; exact v_frw (by simp) fM1
      obtain ⟨z3, hz3, h⟩ := v_bdS h
      have fz3 : v_fr [94, 95, 96, 97, 98, 99, 100] [] M z3.2 := v_frt (by simp) (by simp) fM2 (fr_X12_pushes hz3)
      obtain ⟨z4, hz4, h⟩ := v_bdS h
      have fz4 : v_fr [94, 95, 96, 97, 98, 99, 100] [] M z4.2 := v_frt (by simp) (by simp) fz3 (fr_X12_isUnlike hz4)
      rcases v_iteS h with ⟨c, h⟩ | ⟨c, h⟩
      · exact v_frT fz4 (fw_X12_unlikes_L88 hk17 ih h)
      · rcases v_iteS h with ⟨c, h⟩ | ⟨c, h⟩
        · have h := Option.some.inj h
          subst h
          exact fz4
        · exact v_frT fz4 (fw_X12_unlikes_L88 hk17 ih h)
theorem fw_X12_unlikes_L27 {N n : Nat} {x2 : Int32} {x3 : Int32} {x4 : Int32} {x5 : Int32} {x6 : Int32} {x8 : Int32} {x9 : Int32} {x10 : Int32} {x11 : Int32} {M : v_M} {out : Int32 × v_M} {k17 : Int32 → Int32 → Int32 → Int32 → Int32 → Int32 → Int32 → Int32 → v_M → Option (Int32 × v_M)} (hk17 : ∀ (x2 : Int32) (x3 : Int32) (x4 : Int32) (x5 : Int32) (x6 : Int32) (x8 : Int32) (x9 : Int32) (x10 : Int32) (M : v_M), k17 x2 x3 x4 x5 x6 x8 x9 x10 M = some out → v_fr [94, 95, 96, 97, 98, 99, 100] [] M out.2) (h : f_X12_unlikes_L27 N k17 n x2 x3 x4 x5 x6 x8 x9 x10 x11 M = some out) : v_fr [94, 95, 96, 97, 98, 99, 100] [] M out.2 := fv_X12_unlikes_L27 hk17 n x2 x3 x4 x5 x6 x8 x9 x10 x11 M h
theorem fv_X12_unlikes_L17 {N : Nat} {out : Int32 × v_M} (n : Nat) : ∀ (x2 : Int32) (x3 : Int32) (x4 : Int32) (x5 : Int32) (x6 : Int32) (x8 : Int32) (x9 : Int32) (x10 : Int32) (M : v_M), f_X12_unlikes_L17 N n x2 x3 x4 x5 x6 x8 x9 x10 M = some out → v_fr [94, 95, 96, 97, 98, 99, 100] [] M out.2 := by
  induction n with
  | zero => intro x2 x3 x4 x5 x6 x8 x9 x10 M h; rw [f_X12_unlikes_L17] at h; cases h
  | succ n ih =>
    intro x2 x3 x4 x5 x6 x8 x9 x10 M h
    have fM : v_fr [94, 95, 96, 97, 98, 99, 100] [] M M := v_frR
    rw [f_X12_unlikes_L17] at h
    rcases v_iteS h with ⟨c, h⟩ | ⟨c, h⟩
    · rcases v_iteS h with ⟨c, h⟩ | ⟨c, h⟩
      · have h := Option.some.inj h
        subst h
        exact fM
      · have h := Option.some.inj h
        subst h
        exact fM
    · exact v_frT fM (fw_X12_unlikes_L27 ih h)
theorem fw_X12_unlikes_L17 {N n : Nat} {x2 : Int32} {x3 : Int32} {x4 : Int32} {x5 : Int32} {x6 : Int32} {x8 : Int32} {x9 : Int32} {x10 : Int32} {M : v_M} {out : Int32 × v_M} (h : f_X12_unlikes_L17 N n x2 x3 x4 x5 x6 x8 x9 x10 M = some out) : v_fr [94, 95, 96, 97, 98, 99, 100] [] M out.2 := fv_X12_unlikes_L17 n x2 x3 x4 x5 x6 x8 x9 x10 M h
theorem fr_X12_unlikes {N : Nat} {x1 : Int32} {x2 : Int32} {x3 : Int32} {x4 : Int32} {x5 : Int32} {x6 : Int32} {x7 : Int32} {x8 : Int32} {M : v_M} {out : Int32 × v_M} (h : f_X12_unlikes N x1 x2 x3 x4 x5 x6 x7 x8 M = some out) : v_fr [94, 95, 96, 97, 98, 99, 100] [] M out.2 := by
  have fM : v_fr [94, 95, 96, 97, 98, 99, 100] [] M M := v_frR
  unfold f_X12_unlikes at h
  obtain ⟨z1, hz1, h⟩ := v_bdS h
  have fz1 : v_fr [94, 95, 96, 97, 98, 99, 100] [] M z1.2 := v_frt (by simp) (by simp) fM (fr_X12_takes hz1)
  obtain ⟨z2, hz2, h⟩ := v_bdS h
  have fz2 : v_fr [94, 95, 96, 97, 98, 99, 100] [] M z2.2 := v_frt (by simp) (by simp) fz1 (fr_X12_alters hz2)
  exact v_frT fz2 (fw_X12_unlikes_L17 h)
theorem fr_X12_isTrial {N : Nat} {x1 : Int32} {x2 : Int32} {x3 : Int32} {x4 : Int32} {x5 : Int32} {x6 : Int32} {M : v_M} {out : Int32 × v_M} (h : f_X12_isTrial N x1 x2 x3 x4 x5 x6 M = some out) : v_fr [] [] M out.2 := by
  have fM : v_fr [] [] M M := v_frR
  unfold f_X12_isTrial at h
  obtain ⟨z1, hz1, h⟩ := v_bdS h
  have fz1 : v_fr [] [] M z1.2 := v_frt (by simp) (by simp) fM (fr_X12_isMachine hz1)
  rcases v_iteS h with ⟨c, h⟩ | ⟨c, h⟩
  · obtain ⟨hb, h⟩ := v_ckS h
    have h := Option.some.inj h
    subst h
    exact fz1
  · obtain ⟨z2, hz2, h⟩ := v_bdS h
    have fz2 : v_fr [] [] M z2.2 := v_frt (by simp) (by simp) fz1 (fr_X12_isPart hz2)
    rcases v_iteS h with ⟨c, h⟩ | ⟨c, h⟩
    · obtain ⟨hb, h⟩ := v_ckS h
      have h := Option.some.inj h
      subst h
      exact fz2
    · obtain ⟨z3, hz3, h⟩ := v_bdS h
      have fz3 : v_fr [] [] M z3.2 := v_frt (by simp) (by simp) fz2 (fr_X12_isPart hz3)
      rcases v_iteS h with ⟨c, h⟩ | ⟨c, h⟩
      · obtain ⟨hb, h⟩ := v_ckS h
        have h := Option.some.inj h
        subst h
        exact fz3
      · rcases v_iteS h with ⟨c, h⟩ | ⟨c, h⟩
        · obtain ⟨hb, h⟩ := v_ckS h
          have h := Option.some.inj h
          subst h
          exact fz3
        · obtain ⟨z4, hz4, h⟩ := v_bdS h
          have fz4 : v_fr [] [] M z4.2 := v_frt (by simp) (by simp) fz3 (fr_X12_in hz4)
          rcases v_iteS h with ⟨c, h⟩ | ⟨c, h⟩
          · obtain ⟨hb, h⟩ := v_ckS h
            have h := Option.some.inj h
            subst h
            exact fz4
          · obtain ⟨z5, hz5, h⟩ := v_bdS h
            have fz5 : v_fr [] [] M z5.2 := v_frt (by simp) (by simp) fz4 (fr_X12_in hz5)
            rcases v_iteS h with ⟨c, h⟩ | ⟨c, h⟩
            · obtain ⟨hb, h⟩ := v_ckS h
              have h := Option.some.inj h
              subst h
              exact fz5
            · obtain ⟨z6, hz6, h⟩ := v_bdS h
              have fz6 : v_fr [] [] M z6.2 := v_frt (by simp) (by simp) fz5 (fr_X12_in hz6)
              rcases v_iteS h with ⟨c, h⟩ | ⟨c, h⟩
              · obtain ⟨hb, h⟩ := v_ckS h
                have h := Option.some.inj h
                subst h
                exact fz6
              · obtain ⟨hb, h⟩ := v_ckS h
                have h := Option.some.inj h
                subst h
                exact fz6
theorem fr_X12_tried {N : Nat} {x1 : Int32} {x2 : Int32} {x3 : Int32} {x4 : Int32} {x5 : Int32} {x6 : Int32} {x7 : Int32} {M : v_M} {out : Int32 × v_M} (h : f_X12_tried N x1 x2 x3 x4 x5 x6 x7 M = some out) : v_fr [94, 95, 96, 97, 98, 99, 100] [] M out.2 := by
  have fM : v_fr [94, 95, 96, 97, 98, 99, 100] [] M M := v_frR
  unfold f_X12_tried at h
  obtain ⟨z1, hz1, h⟩ := v_bdS h
  have fz1 : v_fr [94, 95, 96, 97, 98, 99, 100] [] M z1.2 := v_frt (by simp) (by simp) fM (fr_X12_isTrial hz1)
  rcases v_iteS h with ⟨c, h⟩ | ⟨c, h⟩
  · have h := Option.some.inj h
    subst h
    exact fz1
  · obtain ⟨z2, hz2, h⟩ := v_bdS h
    have fz2 : v_fr [94, 95, 96, 97, 98, 99, 100] [] M z2.2 := v_frt (by simp) (by simp) fz1 (fr_X12_unlikes hz2)
    have h := Option.some.inj h
    subst h
    exact fz2
theorem fr_X12_change {N : Nat} {x1 : Int32} {x2 : Int32} {x3 : Int32} {x4 : Int32} {x5 : Int32} {M : v_M} {out : Int32 × v_M} (h : f_X12_change N x1 x2 x3 x4 x5 M = some out) : v_fr [101, 102, 103, 104, 105] [(79, 25)] M out.2 := by
  have fM : v_fr [101, 102, 103, 104, 105] [(79, 25)] M M := v_frR
  unfold f_X12_change at h
  rcases v_iteS h with ⟨c, h⟩ | ⟨c, h⟩
  · have h := Option.some.inj h
    subst h
    exact fM
  · obtain ⟨z1, hz1, h⟩ := v_bdS h
    have fz1 : v_fr [101, 102, 103, 104, 105] [(79, 25)] M z1.2 := v_frt (by simp) (by simp) fM (fr_X12_isPart hz1)
    rcases v_iteS h with ⟨c, h⟩ | ⟨c, h⟩
    · have h := Option.some.inj h
      subst h
      exact fz1
    · obtain ⟨z2, hz2, h⟩ := v_bdS h
      have fz2 : v_fr [101, 102, 103, 104, 105] [(79, 25)] M z2.2 := v_frt (by simp) (by simp) fz1 (fr_X12_in hz2)
      rcases v_iteS h with ⟨c, h⟩ | ⟨c, h⟩
      · have h := Option.some.inj h
        subst h
        exact fz2
      · obtain ⟨z3, hz3, h⟩ := v_bdS h
        have fz3 : v_fr [101, 102, 103, 104, 105] [(79, 25)] M z3.2 := v_frt (by simp) (by simp) fz2 (fr_X12_in hz3)
        rcases v_iteS h with ⟨c, h⟩ | ⟨c, h⟩
        · have h := Option.some.inj h
          subst h
          exact fz3
        · obtain ⟨z4, hz4, h⟩ := v_bdS h
          have fz4 : v_fr [101, 102, 103, 104, 105] [(79, 25)] M z4.2 := v_frt (by simp) (by simp) fz3 (fr_X12_in hz4)
          rcases v_iteS h with ⟨c, h⟩ | ⟨c, h⟩
          · have h := Option.some.inj h
            subst h
            exact fz4
          · obtain ⟨z5, hz5, h⟩ := v_bdS h
            have fz5 : v_fr [101, 102, 103, 104, 105] [(79, 25)] M z5.2 := v_frt (by simp) (by simp) fz4 (fr_X12_in hz5)
            rcases v_iteS h with ⟨c, h⟩ | ⟨c, h⟩
            · have h := Option.some.inj h
              subst h
              exact fz5
            · obtain ⟨hb, h⟩ := v_ckS h
              obtain ⟨M6, eM6, h⟩ := v_ltM h
              have fM6 : v_fr [101, 102, 103, 104, 105] [(79, 25)] M M6 := by rw [eM6]; exact v_frw (by simp) fz5
              obtain ⟨hb, h⟩ := v_ckS h
              obtain ⟨M7, eM7, h⟩ := v_ltM h
              have fM7 : v_fr [101, 102, 103, 104, 105] [(79, 25)] M M7 := by rw [eM7]; exact v_frw (by simp) fM6
              obtain ⟨hb, h⟩ := v_ckS h
              obtain ⟨M8, eM8, h⟩ := v_ltM h
              have fM8 : v_fr [101, 102, 103, 104, 105] [(79, 25)] M M8 := by rw [eM8]; exact v_frw (by simp) fM7
              obtain ⟨hb, h⟩ := v_ckS h
              obtain ⟨M9, eM9, h⟩ := v_ltM h
              have fM9 : v_fr [101, 102, 103, 104, 105] [(79, 25)] M M9 := by rw [eM9]; exact v_frw (by simp) fM8
              obtain ⟨hb, h⟩ := v_ckS h
              obtain ⟨M10, eM10, h⟩ := v_ltM h
              have fM10 : v_fr [101, 102, 103, 104, 105] [(79, 25)] M M10 := by rw [eM10]; exact v_frw (by simp) fM9
              obtain ⟨M11, eM11, h⟩ := v_ltM h
              have fM11 : v_fr [101, 102, 103, 104, 105] [(79, 25)] M M11 := by rw [eM11]; exact v_fro (by simp) fM10
              have h := Option.some.inj h
              subst h
              exact fM11
theorem fv_X12_bits_L4 {N : Nat} {out : Int32 × v_M} (n : Nat) : ∀ (x1 : Int32) (x2 : Int32) (M : v_M), f_X12_bits_L4 N n x1 x2 M = some out → v_fr [] [] M out.2 := by
  induction n with
  | zero => intro x1 x2 M h; rw [f_X12_bits_L4] at h; cases h
  | succ n ih =>
    intro x1 x2 M h
    have fM : v_fr [] [] M M := v_frR
    rw [f_X12_bits_L4] at h
    rcases v_iteS h with ⟨c, h⟩ | ⟨c, h⟩
    · have h := Option.some.inj h
      subst h
      exact fM
    · obtain ⟨y1, ey1, h⟩ := v_ltM h
      exact v_frT fM (ih _ _ _ h)
theorem fw_X12_bits_L4 {N n : Nat} {x1 : Int32} {x2 : Int32} {M : v_M} {out : Int32 × v_M} (h : f_X12_bits_L4 N n x1 x2 M = some out) : v_fr [] [] M out.2 := fv_X12_bits_L4 n x1 x2 M h
theorem fr_X12_bits {N : Nat} {x0 : Int32} {M : v_M} {out : Int32 × v_M} (h : f_X12_bits N x0 M = some out) : v_fr [] [] M out.2 := by
  have fM : v_fr [] [] M M := v_frR
  unfold f_X12_bits at h
  exact v_frT fM (fw_X12_bits_L4 h)
theorem fw_X12_cheapest_L161 {N : Nat} {x1 : Int32} {x2 : Int32} {x3 : Int32} {x4 : Int32} {x5 : Int32} {x6 : Int32} {x7 : Int32} {x8 : Int32} {x9 : Int32} {M : v_M} {out : Int32 × v_M} {k28 : Int32 → Int32 → Int32 → Int32 → Int32 → Int32 → Int32 → Int32 → Int32 → v_M → Option (Int32 × v_M)} (hk28 : ∀ (x1 : Int32) (x2 : Int32) (x3 : Int32) (x4 : Int32) (x5 : Int32) (x6 : Int32) (x7 : Int32) (x8 : Int32) (x9 : Int32) (M : v_M), k28 x1 x2 x3 x4 x5 x6 x7 x8 x9 M = some out → v_fr [94, 95, 96, 97, 98, 99, 100] [] M out.2) (h : f_X12_cheapest_L161 N k28 x1 x2 x3 x4 x5 x6 x7 x8 x9 M = some out) : v_fr [94, 95, 96, 97, 98, 99, 100] [] M out.2 := by
  have fM : v_fr [94, 95, 96, 97, 98, 99, 100] [] M M := v_frR
  unfold f_X12_cheapest_L161 at h
  exact v_frT fM (hk28 _ _ _ _ _ _ _ _ _ _ h)
theorem fw_X12_cheapest_L126 {N : Nat} {x1 : Int32} {x2 : Int32} {x3 : Int32} {x4 : Int32} {x5 : Int32} {x6 : Int32} {x7 : Int32} {x8 : Int32} {x9 : Int32} {x10 : Int32} {t0 : Int32} {M : v_M} {out : Int32 × v_M} {k28 : Int32 → Int32 → Int32 → Int32 → Int32 → Int32 → Int32 → Int32 → Int32 → v_M → Option (Int32 × v_M)} (hk28 : ∀ (x1 : Int32) (x2 : Int32) (x3 : Int32) (x4 : Int32) (x5 : Int32) (x6 : Int32) (x7 : Int32) (x8 : Int32) (x9 : Int32) (M : v_M), k28 x1 x2 x3 x4 x5 x6 x7 x8 x9 M = some out → v_fr [94, 95, 96, 97, 98, 99, 100] [] M out.2) (h : f_X12_cheapest_L126 N k28 x1 x2 x3 x4 x5 x6 x7 x8 x9 x10 t0 M = some out) : v_fr [94, 95, 96, 97, 98, 99, 100] [] M out.2 := by
  have fM : v_fr [94, 95, 96, 97, 98, 99, 100] [] M M := v_frR
  unfold f_X12_cheapest_L126 at h
  rcases v_iteS h with ⟨c, h⟩ | ⟨c, h⟩
  · exact v_frT fM (fw_X12_cheapest_L161 hk28 h)
  · obtain ⟨z1, hz1, h⟩ := v_bdS h
    have fz1 : v_fr [94, 95, 96, 97, 98, 99, 100] [] M z1.2 := v_frt (by simp) (by simp) fM (fr_X12_unlikes hz1)
    rcases v_iteS h with ⟨c, h⟩ | ⟨c, h⟩
    · exact v_frT fz1 (fw_X12_cheapest_L161 hk28 h)
    · exact v_frT fz1 (fw_X12_cheapest_L161 hk28 h)
theorem fw_X12_cheapest_L125 {N : Nat} {x1 : Int32} {x2 : Int32} {x3 : Int32} {x4 : Int32} {x5 : Int32} {x6 : Int32} {x7 : Int32} {x8 : Int32} {x9 : Int32} {x10 : Int32} {M : v_M} {out : Int32 × v_M} {k28 : Int32 → Int32 → Int32 → Int32 → Int32 → Int32 → Int32 → Int32 → Int32 → v_M → Option (Int32 × v_M)} (hk28 : ∀ (x1 : Int32) (x2 : Int32) (x3 : Int32) (x4 : Int32) (x5 : Int32) (x6 : Int32) (x7 : Int32) (x8 : Int32) (x9 : Int32) (M : v_M), k28 x1 x2 x3 x4 x5 x6 x7 x8 x9 M = some out → v_fr [94, 95, 96, 97, 98, 99, 100] [] M out.2) (h : f_X12_cheapest_L125 N k28 x1 x2 x3 x4 x5 x6 x7 x8 x9 x10 M = some out) : v_fr [94, 95, 96, 97, 98, 99, 100] [] M out.2 := by
  have fM : v_fr [94, 95, 96, 97, 98, 99, 100] [] M M := v_frR
  unfold f_X12_cheapest_L125 at h
  exact v_frT fM (fw_X12_cheapest_L126 hk28 h)
theorem fw_X12_cheapest_L121 {N : Nat} {x1 : Int32} {x2 : Int32} {x3 : Int32} {x4 : Int32} {x5 : Int32} {x6 : Int32} {x7 : Int32} {x8 : Int32} {x9 : Int32} {x10 : Int32} {M : v_M} {out : Int32 × v_M} {k28 : Int32 → Int32 → Int32 → Int32 → Int32 → Int32 → Int32 → Int32 → Int32 → v_M → Option (Int32 × v_M)} (hk28 : ∀ (x1 : Int32) (x2 : Int32) (x3 : Int32) (x4 : Int32) (x5 : Int32) (x6 : Int32) (x7 : Int32) (x8 : Int32) (x9 : Int32) (M : v_M), k28 x1 x2 x3 x4 x5 x6 x7 x8 x9 M = some out → v_fr [94, 95, 96, 97, 98, 99, 100] [] M out.2) (h : f_X12_cheapest_L121 N k28 x1 x2 x3 x4 x5 x6 x7 x8 x9 x10 M = some out) : v_fr [94, 95, 96, 97, 98, 99, 100] [] M out.2 := by
  have fM : v_fr [94, 95, 96, 97, 98, 99, 100] [] M M := v_frR
  unfold f_X12_cheapest_L121 at h
  exact v_frT fM (fw_X12_cheapest_L126 hk28 h)
theorem fw_X12_cheapest_L78 {N : Nat} {x1 : Int32} {x2 : Int32} {x3 : Int32} {x4 : Int32} {x5 : Int32} {x6 : Int32} {x7 : Int32} {x8 : Int32} {x9 : Int32} {x11 : Int32} {t0 : Int32} {t1 : Int32} {M : v_M} {out : Int32 × v_M} {k28 : Int32 → Int32 → Int32 → Int32 → Int32 → Int32 → Int32 → Int32 → Int32 → v_M → Option (Int32 × v_M)} (hk28 : ∀ (x1 : Int32) (x2 : Int32) (x3 : Int32) (x4 : Int32) (x5 : Int32) (x6 : Int32) (x7 : Int32) (x8 : Int32) (x9 : Int32) (M : v_M), k28 x1 x2 x3 x4 x5 x6 x7 x8 x9 M = some out → v_fr [94, 95, 96, 97, 98, 99, 100] [] M out.2) {k45 : Int32 → Int32 → Int32 → Int32 → Int32 → Int32 → Int32 → Int32 → Int32 → Int32 → Int32 → v_M → Option (Int32 × v_M)} (hk45 : ∀ (x1 : Int32) (x2 : Int32) (x3 : Int32) (x4 : Int32) (x5 : Int32) (x6 : Int32) (x7 : Int32) (x8 : Int32) (x9 : Int32) (x10 : Int32) (x11 : Int32) (M : v_M), k45 x1 x2 x3 x4 x5 x6 x7 x8 x9 x10 x11 M = some out → v_fr [94, 95, 96, 97, 98, 99, 100] [] M out.2) (h : f_X12_cheapest_L78 N k28 k45 x1 x2 x3 x4 x5 x6 x7 x8 x9 x11 t0 t1 M = some out) : v_fr [94, 95, 96, 97, 98, 99, 100] [] M out.2 := by
  have fM : v_fr [94, 95, 96, 97, 98, 99, 100] [] M M := v_frR
  unfold f_X12_cheapest_L78 at h
  obtain ⟨y1, ey1, h⟩ := v_ltM h
  exact v_frT fM (hk45 _ _ _ _ _ _ _ _ _ _ _ _ h)
theorem fv_X12_cheapest_L45 {N : Nat} {out : Int32 × v_M} {k28 : Int32 → Int32 → Int32 → Int32 → Int32 → Int32 → Int32 → Int32 → Int32 → v_M → Option (Int32 × v_M)} (hk28 : ∀ (x1 : Int32) (x2 : Int32) (x3 : Int32) (x4 : Int32) (x5 : Int32) (x6 : Int32) (x7 : Int32) (x8 : Int32) (x9 : Int32) (M : v_M), k28 x1 x2 x3 x4 x5 x6 x7 x8 x9 M = some out → v_fr [94, 95, 96, 97, 98, 99, 100] [] M out.2) (n : Nat) : ∀ (x1 : Int32) (x2 : Int32) (x3 : Int32) (x4 : Int32) (x5 : Int32) (x6 : Int32) (x7 : Int32) (x8 : Int32) (x9 : Int32) (x10 : Int32) (x11 : Int32) (M : v_M), f_X12_cheapest_L45 N k28 n x1 x2 x3 x4 x5 x6 x7 x8 x9 x10 x11 M = some out → v_fr [94, 95, 96, 97, 98, 99, 100] [] M out.2 := by
  induction n with
  | zero => intro x1 x2 x3 x4 x5 x6 x7 x8 x9 x10 x11 M h; rw [f_X12_cheapest_L45] at h; cases h
  | succ n ih =>
    intro x1 x2 x3 x4 x5 x6 x7 x8 x9 x10 x11 M h
    have fM : v_fr [94, 95, 96, 97, 98, 99, 100] [] M M := v_frR
    rw [f_X12_cheapest_L45] at h
    rcases v_iteS h with ⟨c, h⟩ | ⟨c, h⟩
    · rcases v_iteS h with ⟨c, h⟩ | ⟨c, h⟩
      · exact v_frT fM (fw_X12_cheapest_L121 hk28 h)
      · rcases v_iteS h with ⟨c, h⟩ | ⟨c, h⟩
        · exact v_frT fM (fw_X12_cheapest_L121 hk28 h)
        · rcases v_iteS h with ⟨c, h⟩ | ⟨c, h⟩
          · obtain ⟨z1, hz1, h⟩ := v_bdS h
            have fz1 : v_fr [94, 95, 96, 97, 98, 99, 100] [] M z1.2 := v_frt (by simp) (by simp) fM (fr_X12_bits hz1)
            obtain ⟨z2, hz2, h⟩ := v_bdS h
            have fz2 : v_fr [94, 95, 96, 97, 98, 99, 100] [] M z2.2 := v_frt (by simp) (by simp) fz1 (fr_X12_bits hz2)
            rcases v_iteS h with ⟨c, h⟩ | ⟨c, h⟩
            · exact v_frT fz2 (fw_X12_cheapest_L125 hk28 h)
            · exact v_frT fz2 (fw_X12_cheapest_L121 hk28 h)
          · exact v_frT fM (fw_X12_cheapest_L125 hk28 h)
    · rcases v_iteS h with ⟨c, h⟩ | ⟨c, h⟩
      · obtain ⟨hb, h⟩ := v_ckS h
        exact v_frT fM (fw_X12_cheapest_L78 hk28 ih h)
      · exact v_frT fM (fw_X12_cheapest_L78 hk28 ih h)
theorem fw_X12_cheapest_L45 {N n : Nat} {x1 : Int32} {x2 : Int32} {x3 : Int32} {x4 : Int32} {x5 : Int32} {x6 : Int32} {x7 : Int32} {x8 : Int32} {x9 : Int32} {x10 : Int32} {x11 : Int32} {M : v_M} {out : Int32 × v_M} {k28 : Int32 → Int32 → Int32 → Int32 → Int32 → Int32 → Int32 → Int32 → Int32 → v_M → Option (Int32 × v_M)} (hk28 : ∀ (x1 : Int32) (x2 : Int32) (x3 : Int32) (x4 : Int32) (x5 : Int32) (x6 : Int32) (x7 : Int32) (x8 : Int32) (x9 : Int32) (M : v_M), k28 x1 x2 x3 x4 x5 x6 x7 x8 x9 M = some out → v_fr [94, 95, 96, 97, 98, 99, 100] [] M out.2) (h : f_X12_cheapest_L45 N k28 n x1 x2 x3 x4 x5 x6 x7 x8 x9 x10 x11 M = some out) : v_fr [94, 95, 96, 97, 98, 99, 100] [] M out.2 := fv_X12_cheapest_L45 hk28 n x1 x2 x3 x4 x5 x6 x7 x8 x9 x10 x11 M h
theorem fv_X12_cheapest_L28 {N : Nat} {out : Int32 × v_M} (n : Nat) : ∀ (x1 : Int32) (x2 : Int32) (x3 : Int32) (x4 : Int32) (x5 : Int32) (x6 : Int32) (x7 : Int32) (x8 : Int32) (x9 : Int32) (M : v_M), f_X12_cheapest_L28 N n x1 x2 x3 x4 x5 x6 x7 x8 x9 M = some out → v_fr [94, 95, 96, 97, 98, 99, 100] [] M out.2 := by
  induction n with
  | zero => intro x1 x2 x3 x4 x5 x6 x7 x8 x9 M h; rw [f_X12_cheapest_L28] at h; cases h
  | succ n ih =>
    intro x1 x2 x3 x4 x5 x6 x7 x8 x9 M h
    have fM : v_fr [94, 95, 96, 97, 98, 99, 100] [] M M := v_frR
    rw [f_X12_cheapest_L28] at h
    rcases v_iteS h with ⟨c, h⟩ | ⟨c, h⟩
    · have h := Option.some.inj h
      subst h
      exact fM
    · exact v_frT fM (fw_X12_cheapest_L45 ih h)
theorem fw_X12_cheapest_L28 {N n : Nat} {x1 : Int32} {x2 : Int32} {x3 : Int32} {x4 : Int32} {x5 : Int32} {x6 : Int32} {x7 : Int32} {x8 : Int32} {x9 : Int32} {M : v_M} {out : Int32 × v_M} (h : f_X12_cheapest_L28 N n x1 x2 x3 x4 x5 x6 x7 x8 x9 M = some out) : v_fr [94, 95, 96, 97, 98, 99, 100] [] M out.2 := fv_X12_cheapest_L28 n x1 x2 x3 x4 x5 x6 x7 x8 x9 M h
theorem fr_X12_cheapest {N : Nat} {x1 : Int32} {x2 : Int32} {x3 : Int32} {x4 : Int32} {x5 : Int32} {x6 : Int32} {M : v_M} {out : Int32 × v_M} (h : f_X12_cheapest N x1 x2 x3 x4 x5 x6 M = some out) : v_fr [94, 95, 96, 97, 98, 99, 100] [] M out.2 := by
  have fM : v_fr [94, 95, 96, 97, 98, 99, 100] [] M M := v_frR
  unfold f_X12_cheapest at h
  obtain ⟨z1, hz1, h⟩ := v_bdS h
  have fz1 : v_fr [94, 95, 96, 97, 98, 99, 100] [] M z1.2 := v_frt (by simp) (by simp) fM (fr_X12_isTrial hz1)
  rcases v_iteS h with ⟨c, h⟩ | ⟨c, h⟩
  · have h := Option.some.inj h
    subst h
    exact fz1
  · exact v_frT fz1 (fw_X12_cheapest_L28 h)
theorem fw_X12_goes_L250 {N : Nat} {x2 : Int32} {x3 : Int32} {x4 : Int32} {x5 : Int32} {M : v_M} {out : Int32 × v_M} {k140 : Int32 → Int32 → Int32 → Int32 → v_M → Option (Int32 × v_M)} (hk140 : ∀ (x2 : Int32) (x3 : Int32) (x4 : Int32) (x5 : Int32) (M : v_M), k140 x2 x3 x4 x5 M = some out → v_fr [94, 95, 96, 97, 98, 99, 106] [] M out.2) (h : f_X12_goes_L250 N k140 x2 x3 x4 x5 M = some out) : v_fr [94, 95, 96, 97, 98, 99, 106] [] M out.2 := by
  have fM : v_fr [94, 95, 96, 97, 98, 99, 106] [] M M := v_frR
  unfold f_X12_goes_L250 at h
  rcases v_iteS h with ⟨c, h⟩ | ⟨c, h⟩
  · have h := Option.some.inj h
    subst h
    exact fM
  · exact v_frT fM (hk140 _ _ _ _ _ h)
theorem fw_X12_goes_L237 {N : Nat} {x2 : Int32} {x3 : Int32} {x5 : Int32} {x6 : Int32} {x7 : Int32} {x8 : Int32} {x9 : Int32} {x10 : Int32} {M : v_M} {out : Int32 × v_M} {k140 : Int32 → Int32 → Int32 → Int32 → v_M → Option (Int32 × v_M)} (hk140 : ∀ (x2 : Int32) (x3 : Int32) (x4 : Int32) (x5 : Int32) (M : v_M), k140 x2 x3 x4 x5 M = some out → v_fr [94, 95, 96, 97, 98, 99, 106] [] M out.2) {k159 : Int32 → Int32 → Int32 → Int32 → Int32 → Int32 → v_M → Option (Int32 × v_M)} (hk159 : ∀ (x2 : Int32) (x3 : Int32) (x4 : Int32) (x5 : Int32) (x6 : Int32) (x7 : Int32) (M : v_M), k159 x2 x3 x4 x5 x6 x7 M = some out → v_fr [94, 95, 96, 97, 98, 99, 106] [] M out.2) {k191 : Int32 → Int32 → Int32 → Int32 → Int32 → Int32 → Int32 → Int32 → v_M → Option (Int32 × v_M)} (hk191 : ∀ (x2 : Int32) (x3 : Int32) (x5 : Int32) (x6 : Int32) (x7 : Int32) (x8 : Int32) (x9 : Int32) (x10 : Int32) (M : v_M), k191 x2 x3 x5 x6 x7 x8 x9 x10 M = some out → v_fr [94, 95, 96, 97, 98, 99, 106] [] M out.2) (h : f_X12_goes_L237 N k140 k159 k191 x2 x3 x5 x6 x7 x8 x9 x10 M = some out) : v_fr [94, 95, 96, 97, 98, 99, 106] [] M out.2 := by
  have fM : v_fr [94, 95, 96, 97, 98, 99, 106] [] M M := v_frR
  unfold f_X12_goes_L237 at h
  exact v_frT fM (hk191 _ _ _ _ _ _ _ _ _ h)
theorem fv_X12_goes_L191 {N : Nat} {out : Int32 × v_M} {k140 : Int32 → Int32 → Int32 → Int32 → v_M → Option (Int32 × v_M)} (hk140 : ∀ (x2 : Int32) (x3 : Int32) (x4 : Int32) (x5 : Int32) (M : v_M), k140 x2 x3 x4 x5 M = some out → v_fr [94, 95, 96, 97, 98, 99, 106] [] M out.2) {k159 : Int32 → Int32 → Int32 → Int32 → Int32 → Int32 → v_M → Option (Int32 × v_M)} (hk159 : ∀ (x2 : Int32) (x3 : Int32) (x4 : Int32) (x5 : Int32) (x6 : Int32) (x7 : Int32) (M : v_M), k159 x2 x3 x4 x5 x6 x7 M = some out → v_fr [94, 95, 96, 97, 98, 99, 106] [] M out.2) (n : Nat) : ∀ (x2 : Int32) (x3 : Int32) (x5 : Int32) (x6 : Int32) (x7 : Int32) (x8 : Int32) (x9 : Int32) (x10 : Int32) (M : v_M), f_X12_goes_L191 N k140 k159 n x2 x3 x5 x6 x7 x8 x9 x10 M = some out → v_fr [94, 95, 96, 97, 98, 99, 106] [] M out.2 := by
  induction n with
  | zero => intro x2 x3 x5 x6 x7 x8 x9 x10 M h; rw [f_X12_goes_L191] at h; cases h
  | succ n ih =>
    intro x2 x3 x5 x6 x7 x8 x9 x10 M h
    have fM : v_fr [94, 95, 96, 97, 98, 99, 106] [] M M := v_frR
    rw [f_X12_goes_L191] at h
    rcases v_iteS h with ⟨c, h⟩ | ⟨c, h⟩
    · exact v_frT fM (hk159 _ _ _ _ _ _ _ h)
    · obtain ⟨hb, h⟩ := v_ckS h
      rcases v_iteS h with ⟨c, h⟩ | ⟨c, h⟩
      · exact v_frT fM (fw_X12_goes_L237 hk140 hk159 ih h)
      · obtain ⟨hb, h⟩ := v_ckS h
        rcases v_iteS h with ⟨c, h⟩ | ⟨c, h⟩
        · exact v_frT fM (fw_X12_goes_L237 hk140 hk159 ih h)
        · obtain ⟨hb, h⟩ := v_ckS h
          obtain ⟨M1, eM1, h⟩ := v_ltM h
          have fM1 : v_fr [94, 95, 96, 97, 98, 99, 106] [] M M1 := by rw [eM1]; exact v_frw (by simp) fM
          exact v_frT fM1 (fw_X12_goes_L237 hk140 hk159 ih h)
theorem fw_X12_goes_L191 {N n : Nat} {x2 : Int32} {x3 : Int32} {x5 : Int32} {x6 : Int32} {x7 : Int32} {x8 : Int32} {x9 : Int32} {x10 : Int32} {M : v_M} {out : Int32 × v_M} {k140 : Int32 → Int32 → Int32 → Int32 → v_M → Option (Int32 × v_M)} (hk140 : ∀ (x2 : Int32) (x3 : Int32) (x4 : Int32) (x5 : Int32) (M : v_M), k140 x2 x3 x4 x5 M = some out → v_fr [94, 95, 96, 97, 98, 99, 106] [] M out.2) {k159 : Int32 → Int32 → Int32 → Int32 → Int32 → Int32 → v_M → Option (Int32 × v_M)} (hk159 : ∀ (x2 : Int32) (x3 : Int32) (x4 : Int32) (x5 : Int32) (x6 : Int32) (x7 : Int32) (M : v_M), k159 x2 x3 x4 x5 x6 x7 M = some out → v_fr [94, 95, 96, 97, 98, 99, 106] [] M out.2) (h : f_X12_goes_L191 N k140 k159 n x2 x3 x5 x6 x7 x8 x9 x10 M = some out) : v_fr [94, 95, 96, 97, 98, 99, 106] [] M out.2 := fv_X12_goes_L191 hk140 hk159 n x2 x3 x5 x6 x7 x8 x9 x10 M h
theorem fv_X12_goes_L159 {N : Nat} {out : Int32 × v_M} {k140 : Int32 → Int32 → Int32 → Int32 → v_M → Option (Int32 × v_M)} (hk140 : ∀ (x2 : Int32) (x3 : Int32) (x4 : Int32) (x5 : Int32) (M : v_M), k140 x2 x3 x4 x5 M = some out → v_fr [94, 95, 96, 97, 98, 99, 106] [] M out.2) (n : Nat) : ∀ (x2 : Int32) (x3 : Int32) (x4 : Int32) (x5 : Int32) (x6 : Int32) (x7 : Int32) (M : v_M), f_X12_goes_L159 N k140 n x2 x3 x4 x5 x6 x7 M = some out → v_fr [94, 95, 96, 97, 98, 99, 106] [] M out.2 := by
  induction n with
  | zero => intro x2 x3 x4 x5 x6 x7 M h; rw [f_X12_goes_L159] at h; cases h
  | succ n ih =>
    intro x2 x3 x4 x5 x6 x7 M h
    have fM : v_fr [94, 95, 96, 97, 98, 99, 106] [] M M := v_frR
    rw [f_X12_goes_L159] at h
    rcases v_iteS h with ⟨c, h⟩ | ⟨c, h⟩
    · exact v_frT fM (fw_X12_goes_L250 hk140 h)
    · rcases v_iteS h with ⟨c, h⟩ | ⟨c, h⟩
      · exact v_frT fM (fw_X12_goes_L250 hk140 h)
      · obtain ⟨hb, h⟩ := v_ckS h
        obtain ⟨y1, ey1, h⟩ := v_ltM h
        exact v_frT fM (fw_X12_goes_L191 hk140 ih h)
theorem fw_X12_goes_L159 {N n : Nat} {x2 : Int32} {x3 : Int32} {x4 : Int32} {x5 : Int32} {x6 : Int32} {x7 : Int32} {M : v_M} {out : Int32 × v_M} {k140 : Int32 → Int32 → Int32 → Int32 → v_M → Option (Int32 × v_M)} (hk140 : ∀ (x2 : Int32) (x3 : Int32) (x4 : Int32) (x5 : Int32) (M : v_M), k140 x2 x3 x4 x5 M = some out → v_fr [94, 95, 96, 97, 98, 99, 106] [] M out.2) (h : f_X12_goes_L159 N k140 n x2 x3 x4 x5 x6 x7 M = some out) : v_fr [94, 95, 96, 97, 98, 99, 106] [] M out.2 := fv_X12_goes_L159 hk140 n x2 x3 x4 x5 x6 x7 M h
theorem fv_X12_goes_L140 {N : Nat} {out : Int32 × v_M} (n : Nat) : ∀ (x2 : Int32) (x3 : Int32) (x4 : Int32) (x5 : Int32) (M : v_M), f_X12_goes_L140 N n x2 x3 x4 x5 M = some out → v_fr [94, 95, 96, 97, 98, 99, 106] [] M out.2 := by
  induction n with
  | zero => intro x2 x3 x4 x5 M h; rw [f_X12_goes_L140] at h; cases h
  | succ n ih =>
    intro x2 x3 x4 x5 M h
    have fM : v_fr [94, 95, 96, 97, 98, 99, 106] [] M M := v_frR
    rw [f_X12_goes_L140] at h
    rcases v_iteS h with ⟨c, h⟩ | ⟨c, h⟩
    · have h := Option.some.inj h
      subst h
      exact fM
    · obtain ⟨y1, ey1, h⟩ := v_ltM h
      exact v_frT fM (fw_X12_goes_L159 ih h)
theorem fw_X12_goes_L140 {N n : Nat} {x2 : Int32} {x3 : Int32} {x4 : Int32} {x5 : Int32} {M : v_M} {out : Int32 × v_M} (h : f_X12_goes_L140 N n x2 x3 x4 x5 M = some out) : v_fr [94, 95, 96, 97, 98, 99, 106] [] M out.2 := fv_X12_goes_L140 n x2 x3 x4 x5 M h
theorem fw_X12_goes_L128 {N : Nat} {x2 : Int32} {x3 : Int32} {x5 : Int32} {t0 : Int32} {t1 : Int32} {M : v_M} {out : Int32 × v_M} {k45 : Int32 → Int32 → Int32 → Int32 → v_M → Option (Int32 × v_M)} (hk45 : ∀ (x2 : Int32) (x3 : Int32) (x4 : Int32) (x5 : Int32) (M : v_M), k45 x2 x3 x4 x5 M = some out → v_fr [94, 95, 96, 97, 98, 99, 106] [] M out.2) (h : f_X12_goes_L128 N k45 x2 x3 x5 t0 t1 M = some out) : v_fr [94, 95, 96, 97, 98, 99, 106] [] M out.2 := by
  have fM : v_fr [94, 95, 96, 97, 98, 99, 106] [] M M := v_frR
  unfold f_X12_goes_L128 at h
  obtain ⟨y1, ey1, h⟩ := v_ltM h
  exact v_frT fM (hk45 _ _ _ _ _ h)
theorem fw_X12_goes_L109 {N : Nat} {x2 : Int32} {x3 : Int32} {x4 : Int32} {x5 : Int32} {t0 : Int32} {t1 : Int32} {M : v_M} {out : Int32 × v_M} {k45 : Int32 → Int32 → Int32 → Int32 → v_M → Option (Int32 × v_M)} (hk45 : ∀ (x2 : Int32) (x3 : Int32) (x4 : Int32) (x5 : Int32) (M : v_M), k45 x2 x3 x4 x5 M = some out → v_fr [94, 95, 96, 97, 98, 99, 106] [] M out.2) (h : f_X12_goes_L109 N k45 x2 x3 x4 x5 t0 t1 M = some out) : v_fr [94, 95, 96, 97, 98, 99, 106] [] M out.2 := by
  have fM : v_fr [94, 95, 96, 97, 98, 99, 106] [] M M := v_frR
  unfold f_X12_goes_L109 at h
  obtain ⟨hb, h⟩ := v_ckS h
  obtain ⟨M1, eM1, h⟩ := v_ltM h
  have fM1 : v_fr [94, 95, 96, 97, 98, 99, 106] [] M M1 := by rw [eM1]; exact v_frw (by simp) fM
  obtain ⟨hb, h⟩ := v_ckS h
  rcases v_iteS h with ⟨c, h⟩ | ⟨c, h⟩
  · exact v_frT fM1 (fw_X12_goes_L128 hk45 h)
  · exact v_frT fM1 (fw_X12_goes_L128 hk45 h)
theorem fw_X12_goes_L108 {N : Nat} {x2 : Int32} {x3 : Int32} {x4 : Int32} {x5 : Int32} {t0 : Int32} {M : v_M} {out : Int32 × v_M} {k45 : Int32 → Int32 → Int32 → Int32 → v_M → Option (Int32 × v_M)} (hk45 : ∀ (x2 : Int32) (x3 : Int32) (x4 : Int32) (x5 : Int32) (M : v_M), k45 x2 x3 x4 x5 M = some out → v_fr [94, 95, 96, 97, 98, 99, 106] [] M out.2) (h : f_X12_goes_L108 N k45 x2 x3 x4 x5 t0 M = some out) : v_fr [94, 95, 96, 97, 98, 99, 106] [] M out.2 := by
  have fM : v_fr [94, 95, 96, 97, 98, 99, 106] [] M M := v_frR
  unfold f_X12_goes_L108 at h
  exact v_frT fM (fw_X12_goes_L109 hk45 h)
theorem fv_X12_goes_L45 {N : Nat} {out : Int32 × v_M} (n : Nat) : ∀ (x2 : Int32) (x3 : Int32) (x4 : Int32) (x5 : Int32) (M : v_M), f_X12_goes_L45 N n x2 x3 x4 x5 M = some out → v_fr [94, 95, 96, 97, 98, 99, 106] [] M out.2 := by
  induction n with
  | zero => intro x2 x3 x4 x5 M h; rw [f_X12_goes_L45] at h; cases h
  | succ n ih =>
    intro x2 x3 x4 x5 M h
    have fM : v_fr [94, 95, 96, 97, 98, 99, 106] [] M M := v_frR
    rw [f_X12_goes_L45] at h
    rcases v_iteS h with ⟨c, h⟩ | ⟨c, h⟩
    · exact v_frT fM (fw_X12_goes_L140 h)
    · obtain ⟨hb, h⟩ := v_ckS h
      rcases v_iteS h with ⟨c, h⟩ | ⟨c, h⟩
      · obtain ⟨z1, hz1, h⟩ := v_bdS h
        have fz1 : v_fr [94, 95, 96, 97, 98, 99, 106] [] M z1.2 := v_frt (by simp) (by simp) fM (fr_X12_isOver hz1)
        rcases v_iteS h with ⟨c, h⟩ | ⟨c, h⟩
        · exact v_frT fz1 (fw_X12_goes_L108 ih h)
        · obtain ⟨hb, h⟩ := v_ckS h
          obtain ⟨hb, h⟩ := v_ckS h
          obtain ⟨hb, h⟩ := v_ckS h
          exact v_frT fz1 (fw_X12_goes_L109 ih h)
      · exact v_frT fM (fw_X12_goes_L108 ih h)
theorem fw_X12_goes_L45 {N n : Nat} {x2 : Int32} {x3 : Int32} {x4 : Int32} {x5 : Int32} {M : v_M} {out : Int32 × v_M} (h : f_X12_goes_L45 N n x2 x3 x4 x5 M = some out) : v_fr [94, 95, 96, 97, 98, 99, 106] [] M out.2 := fv_X12_goes_L45 n x2 x3 x4 x5 M h
theorem fr_X12_goes {N : Nat} {x1 : Int32} {x2 : Int32} {x3 : Int32} {M : v_M} {out : Int32 × v_M} (h : f_X12_goes N x1 x2 x3 M = some out) : v_fr [94, 95, 96, 97, 98, 99, 106] [] M out.2 := by
  have fM : v_fr [94, 95, 96, 97, 98, 99, 106] [] M M := v_frR
  unfold f_X12_goes at h
  obtain ⟨z1, hz1, h⟩ := v_bdS h
  have fz1 : v_fr [94, 95, 96, 97, 98, 99, 106] [] M z1.2 := v_frt (by simp) (by simp) fM (fr_X12_isMachine hz1)
  rcases v_iteS h with ⟨c, h⟩ | ⟨c, h⟩
  · have h := Option.some.inj h
    subst h
    exact fz1
  · obtain ⟨z2, hz2, h⟩ := v_bdS h
    have fz2 : v_fr [94, 95, 96, 97, 98, 99, 106] [] M z2.2 := v_frt (by simp) (by simp) fz1 (fr_X12_in hz2)
    rcases v_iteS h with ⟨c, h⟩ | ⟨c, h⟩
    · have h := Option.some.inj h
      subst h
      exact fz2
    · obtain ⟨z3, hz3, h⟩ := v_bdS h
      have fz3 : v_fr [94, 95, 96, 97, 98, 99, 106] [] M z3.2 := v_frt (by simp) (by simp) fz2 (fr_X12_in hz3)
      rcases v_iteS h with ⟨c, h⟩ | ⟨c, h⟩
      · have h := Option.some.inj h
        subst h
        exact fz3
      · obtain ⟨z4, hz4, h⟩ := v_bdS h
        have fz4 : v_fr [94, 95, 96, 97, 98, 99, 106] [] M z4.2 := v_frt (by simp) (by simp) fz3 (fr_X12_takes hz4)
        exact v_frT fz4 (fw_X12_goes_L45 h)
theorem fw_X12_floor_L143 {N : Nat} {x6 : Int32} {t0 : Int32} {M : v_M} {out : Int32 × v_M} (h : f_X12_floor_L143 N x6 t0 M = some out) : v_fr [] [] M out.2 := by
  have fM : v_fr [] [] M M := v_frR
  unfold f_X12_floor_L143 at h
  rcases v_iteS h with ⟨c, h⟩ | ⟨c, h⟩
  · have h := Option.some.inj h
    subst h
    exact fM
  · have h := Option.some.inj h
    subst h
    exact fM
theorem fr_X12_floor {N : Nat} {x1 : Int32} {x2 : Int32} {x3 : Int32} {x4 : Int32} {x5 : Int32} {x6 : Int32} {x7 : Int32} {M : v_M} {out : Int32 × v_M} (h : f_X12_floor N x1 x2 x3 x4 x5 x6 x7 M = some out) : v_fr [] [] M out.2 := by
  have fM : v_fr [] [] M M := v_frR
  unfold f_X12_floor at h
  obtain ⟨z1, hz1, h⟩ := v_bdS h
  have fz1 : v_fr [] [] M z1.2 := v_frt (by simp) (by simp) fM (fr_X12_in hz1)
  rcases v_iteS h with ⟨c, h⟩ | ⟨c, h⟩
  · have h := Option.some.inj h
    subst h
    exact fz1
  · obtain ⟨z2, hz2, h⟩ := v_bdS h
    have fz2 : v_fr [] [] M z2.2 := v_frt (by simp) (by simp) fz1 (fr_X12_in hz2)
    rcases v_iteS h with ⟨c, h⟩ | ⟨c, h⟩
    · have h := Option.some.inj h
      subst h
      exact fz2
    · obtain ⟨z3, hz3, h⟩ := v_bdS h
      have fz3 : v_fr [] [] M z3.2 := v_frt (by simp) (by simp) fz2 (fr_X12_in hz3)
      rcases v_iteS h with ⟨c, h⟩ | ⟨c, h⟩
      · have h := Option.some.inj h
        subst h
        exact fz3
      · obtain ⟨z4, hz4, h⟩ := v_bdS h
        have fz4 : v_fr [] [] M z4.2 := v_frt (by simp) (by simp) fz3 (fr_X12_in hz4)
        rcases v_iteS h with ⟨c, h⟩ | ⟨c, h⟩
        · have h := Option.some.inj h
          subst h
          exact fz4
        · obtain ⟨z5, hz5, h⟩ := v_bdS h
          have fz5 : v_fr [] [] M z5.2 := v_frt (by simp) (by simp) fz4 (fr_X12_in hz5)
          rcases v_iteS h with ⟨c, h⟩ | ⟨c, h⟩
          · have h := Option.some.inj h
            subst h
            exact fz5
          · obtain ⟨z6, hz6, h⟩ := v_bdS h
            have fz6 : v_fr [] [] M z6.2 := v_frt (by simp) (by simp) fz5 (fr_X12_in hz6)
            rcases v_iteS h with ⟨c, h⟩ | ⟨c, h⟩
            · have h := Option.some.inj h
              subst h
              exact fz6
            · obtain ⟨z7, hz7, h⟩ := v_bdS h
              have fz7 : v_fr [] [] M z7.2 := v_frt (by simp) (by simp) fz6 (fr_X12_in hz7)
              rcases v_iteS h with ⟨c, h⟩ | ⟨c, h⟩
              · have h := Option.some.inj h
                subst h
                exact fz7
              · obtain ⟨y8, ey8, h⟩ := v_ltM h
                rcases v_iteS h with ⟨c, h⟩ | ⟨c, h⟩
                · rcases v_iteS h with ⟨c, h⟩ | ⟨c, h⟩
                  · have h := Option.some.inj h
                    subst h
                    exact fz7
                  · have h := Option.some.inj h
                    subst h
                    exact fz7
                · rcases v_iteS h with ⟨c, h⟩ | ⟨c, h⟩
                  · exact v_frT fz7 (fw_X12_floor_L143 h)
                  · obtain ⟨hb, h⟩ := v_ckS h
                    exact v_frT fz7 (fw_X12_floor_L143 h)
theorem fv_X12_put_L3 {N : Nat} {out : Int32 × v_M} (n : Nat) : ∀ (x1 : Int32) (x2 : Int32) (M : v_M), f_X12_put_L3 N n x1 x2 M = some out → v_fr [107] [(79, 32)] M out.2 := by
  induction n with
  | zero => intro x1 x2 M h; rw [f_X12_put_L3] at h; cases h
  | succ n ih =>
    intro x1 x2 M h
    have fM : v_fr [107] [(79, 32)] M M := v_frR
    rw [f_X12_put_L3] at h
    rcases v_iteS h with ⟨c, h⟩ | ⟨c, h⟩
    · have h := Option.some.inj h
      subst h
      exact fM
    · obtain ⟨hb, h⟩ := v_ckS h
      obtain ⟨M1, eM1, h⟩ := v_ltM h
      have fM1 : v_fr [107] [(79, 32)] M M1 := by rw [eM1]; exact v_frw (by simp) fM
      obtain ⟨M2, eM2, h⟩ := v_ltM h
      have fM2 : v_fr [107] [(79, 32)] M M2 := by rw [eM2]; exact v_fro (by simp) fM1
      exact v_frT fM2 (ih _ _ _ h)
theorem fw_X12_put_L3 {N n : Nat} {x1 : Int32} {x2 : Int32} {M : v_M} {out : Int32 × v_M} (h : f_X12_put_L3 N n x1 x2 M = some out) : v_fr [107] [(79, 32)] M out.2 := fv_X12_put_L3 n x1 x2 M h
theorem fr_X12_put {N : Nat} {x1 : Int32} {M : v_M} {out : Int32 × v_M} (h : f_X12_put N x1 M = some out) : v_fr [107] [(79, 32)] M out.2 := by
  have fM : v_fr [107] [(79, 32)] M M := v_frR
  unfold f_X12_put at h
  exact v_frT fM (fw_X12_put_L3 h)
theorem fr_X12_end {N : Nat} {x1 : Int32} {M : v_M} {out : Int32 × v_M} (h : f_X12_end N x1 M = some out) : v_fr [] [(79, 32)] M out.2 := by
  have fM : v_fr [] [(79, 32)] M M := v_frR
  unfold f_X12_end at h
  rcases v_iteS h with ⟨c, h⟩ | ⟨c, h⟩
  · have h := Option.some.inj h
    subst h
    exact fM
  · rcases v_iteS h with ⟨c, h⟩ | ⟨c, h⟩
    · obtain ⟨M1, eM1, h⟩ := v_ltM h
      have fM1 : v_fr [] [(79, 32)] M M1 := by rw [eM1]; exact v_fro (by simp) fM
      have h := Option.some.inj h
      subst h
      exact fM1
    · have h := Option.some.inj h
      subst h
      exact fM
theorem fr_X12_wordOf {N : Nat} {x0 : Int32} {M : v_M} {out : Nat × v_M} (h : f_X12_wordOf N x0 M = some out) : v_fr [] [] M out.2 := by
  have fM : v_fr [] [] M M := v_frR
  unfold f_X12_wordOf at h
  by_cases c0 : x0 = (0 : Int32)
  · rw [if_pos c0] at h
    have h := Option.some.inj h
    subst h
    exact fM
  · rw [if_neg c0] at h
    by_cases c1 : x0 = (1 : Int32)
    · rw [if_pos c1] at h
      have h := Option.some.inj h
      subst h
      exact fM
    · rw [if_neg c1] at h
      by_cases c2 : x0 = (2 : Int32)
      · rw [if_pos c2] at h
        have h := Option.some.inj h
        subst h
        exact fM
      · rw [if_neg c2] at h
        by_cases c3 : x0 = (3 : Int32)
        · rw [if_pos c3] at h
          have h := Option.some.inj h
          subst h
          exact fM
        · rw [if_neg c3] at h
          by_cases c4 : x0 = (4 : Int32)
          · rw [if_pos c4] at h
            have h := Option.some.inj h
            subst h
            exact fM
          · rw [if_neg c4] at h
            by_cases c5 : x0 = (5 : Int32)
            · rw [if_pos c5] at h
              have h := Option.some.inj h
              subst h
              exact fM
            · rw [if_neg c5] at h
              have h := Option.some.inj h
              subst h
              exact fM
theorem fr_X12_clauseOf {N : Nat} {x0 : Int32} {M : v_M} {out : Nat × v_M} (h : f_X12_clauseOf N x0 M = some out) : v_fr [] [] M out.2 := by
  have fM : v_fr [] [] M M := v_frR
  unfold f_X12_clauseOf at h
  rcases v_iteS h with ⟨c, h⟩ | ⟨c, h⟩
  · have h := Option.some.inj h
    subst h
    exact fM
  · rcases v_iteS h with ⟨c, h⟩ | ⟨c, h⟩
    · have h := Option.some.inj h
      subst h
      exact fM
    · rcases v_iteS h with ⟨c, h⟩ | ⟨c, h⟩
      · have h := Option.some.inj h
        subst h
        exact fM
      · have h := Option.some.inj h
        subst h
        exact fM
theorem fr_X12_thingOf {N : Nat} {x0 : Int32} {M : v_M} {out : Nat × v_M} (h : f_X12_thingOf N x0 M = some out) : v_fr [] [] M out.2 := by
  have fM : v_fr [] [] M M := v_frR
  unfold f_X12_thingOf at h
  rcases v_iteS h with ⟨c, h⟩ | ⟨c, h⟩
  · have h := Option.some.inj h
    subst h
    exact fM
  · rcases v_iteS h with ⟨c, h⟩ | ⟨c, h⟩
    · have h := Option.some.inj h
      subst h
      exact fM
    · rcases v_iteS h with ⟨c, h⟩ | ⟨c, h⟩
      · have h := Option.some.inj h
        subst h
        exact fM
      · have h := Option.some.inj h
        subst h
        exact fM
theorem fr_X12_fails {N : Nat} {x1 : Int32} {x2 : Int32} {M : v_M} {out : Int32 × v_M} (h : f_X12_fails N x1 x2 M = some out) : v_fr [] [(79, 34)] M out.2 := by
  have fM : v_fr [] [(79, 34)] M M := v_frR
  unfold f_X12_fails at h
  rcases v_iteS h with ⟨c, h⟩ | ⟨c, h⟩
  · obtain ⟨M2, eM2, h⟩ := v_ltM h
    have fM2 : v_fr [] [(79, 34)] M M2 := by rw [eM2]; exact v_fro (by simp) fM
    have h := Option.some.inj h
    subst h
    exact fM2
  · obtain ⟨M1, eM1, h⟩ := v_ltM h
    have fM1 : v_fr [] [(79, 34)] M M1 := by rw [eM1]; exact v_fro (by simp) fM
    have h := Option.some.inj h
    subst h
    exact fM1
theorem fr_X12_sign {N : Nat} {M : v_M} {out : Int32 × v_M} (h : f_X12_sign N M = some out) : v_fr [] [] M out.2 := by
  have fM : v_fr [] [] M M := v_frR
  unfold f_X12_sign at h
  rcases v_iteS h with ⟨c, h⟩ | ⟨c, h⟩
  · have h := Option.some.inj h
    subst h
    exact fM
  · obtain ⟨hb, h⟩ := v_ckS h
    have h := Option.some.inj h
    subst h
    exact fM
theorem fv_X12_blanks_L0 {N : Nat} {out : Int32 × v_M} (n : Nat) : ∀ (M : v_M), f_X12_blanks_L0 N n M = some out → v_fr [] [(79, 33)] M out.2 := by
  induction n with
  | zero => intro M h; rw [f_X12_blanks_L0] at h; cases h
  | succ n ih =>
    intro M h
    have fM : v_fr [] [(79, 33)] M M := v_frR
    rw [f_X12_blanks_L0] at h
    obtain ⟨z1, hz1, h⟩ := v_bdS h
    have fz1 : v_fr [] [(79, 33)] M z1.2 := v_frt (by simp) (by simp) fM (fr_X12_sign hz1)
    rcases v_iteS h with ⟨c, h⟩ | ⟨c, h⟩
    · obtain ⟨M2, eM2, h⟩ := v_ltM h
      have fM2 : v_fr [] [(79, 33)] M M2 := by rw [eM2]; exact v_fro (by simp) fz1
      exact v_frT fM2 (ih  _ h)
    · have h := Option.some.inj h
      subst h
      exact fz1
theorem fw_X12_blanks_L0 {N n : Nat} {M : v_M} {out : Int32 × v_M} (h : f_X12_blanks_L0 N n M = some out) : v_fr [] [(79, 33)] M out.2 := fv_X12_blanks_L0 n M h
theorem fr_X12_blanks {N : Nat} {M : v_M} {out : Int32 × v_M} (h : f_X12_blanks N M = some out) : v_fr [] [(79, 33)] M out.2 := by
  have fM : v_fr [] [(79, 33)] M M := v_frR
  unfold f_X12_blanks at h
  exact v_frT fM (fw_X12_blanks_L0 h)
theorem fr_X12_isDigit {N : Nat} {M : v_M} {out : Int32 × v_M} (h : f_X12_isDigit N M = some out) : v_fr [] [] M out.2 := by
  have fM : v_fr [] [] M M := v_frR
  unfold f_X12_isDigit at h
  obtain ⟨z1, hz1, h⟩ := v_bdS h
  have fz1 : v_fr [] [] M z1.2 := v_frt (by simp) (by simp) fM (fr_X12_sign hz1)
  obtain ⟨z2, hz2, h⟩ := v_bdS h
  have fz2 : v_fr [] [] M z2.2 := v_frt (by simp) (by simp) fz1 (fr_X12_in hz2)
  obtain ⟨hb, h⟩ := v_ckS h
  have h := Option.some.inj h
  subst h
  exact fz2
theorem fw_X12_stands_L102 {N : Nat} {s1 : Nat} {x4 : Int32} {t0 : Int32} {M : v_M} {out : Int32 × v_M} {k63 : Nat → Int32 → Int32 → v_M → Option (Int32 × v_M)} (hk63 : ∀ (s1 : Nat) (x3 : Int32) (x4 : Int32) (M : v_M), k63 s1 x3 x4 M = some out → v_fr [] [] M out.2) (h : f_X12_stands_L102 N k63 s1 x4 t0 M = some out) : v_fr [] [] M out.2 := by
  have fM : v_fr [] [] M M := v_frR
  unfold f_X12_stands_L102 at h
  exact v_frT fM (hk63 _ _ _ _ h)
theorem fv_X12_stands_L63 {N : Nat} {out : Int32 × v_M} (n : Nat) : ∀ (s1 : Nat) (x3 : Int32) (x4 : Int32) (M : v_M), f_X12_stands_L63 N n s1 x3 x4 M = some out → v_fr [] [] M out.2 := by
  induction n with
  | zero => intro s1 x3 x4 M h; rw [f_X12_stands_L63] at h; cases h
  | succ n ih =>
    intro s1 x3 x4 M h
    have fM : v_fr [] [] M M := v_frR
    rw [f_X12_stands_L63] at h
    obtain ⟨z1, hz1, h⟩ := v_bdS h
    have fz1 : v_fr [] [] M z1.2 := v_frt (by simp) (by simp) fM (fr_J0_length_8abf5 hz1)
    rcases v_iteS h with ⟨c, h⟩ | ⟨c, h⟩
    · obtain ⟨hb, h⟩ := v_ckS h
      have h := Option.some.inj h
      subst h
      exact fz1
    · rcases v_iteS h with ⟨c, h⟩ | ⟨c, h⟩
      · obtain ⟨hb, h⟩ := v_ckS h
        have h := Option.some.inj h
        subst h
        exact fz1
      · obtain ⟨hb, h⟩ := v_ckS h
        obtain ⟨z2, hz2, h⟩ := v_bdS h
        have fz2 : v_fr [] [] M z2.2 := v_frt (by simp) (by simp) fz1 (fr_J0_charAt_5068e hz2)
        rcases v_iteS h with ⟨c, h⟩ | ⟨c, h⟩
        · exact v_frT fz2 (fw_X12_stands_L102 ih h)
        · exact v_frT fz2 (fw_X12_stands_L102 ih h)
theorem fw_X12_stands_L63 {N n : Nat} {s1 : Nat} {x3 : Int32} {x4 : Int32} {M : v_M} {out : Int32 × v_M} (h : f_X12_stands_L63 N n s1 x3 x4 M = some out) : v_fr [] [] M out.2 := fv_X12_stands_L63 n s1 x3 x4 M h
theorem fw_X12_stands_L59 {N : Nat} {s1 : Nat} {t0 : Int32} {M : v_M} {out : Int32 × v_M} (h : f_X12_stands_L59 N s1 t0 M = some out) : v_fr [] [] M out.2 := by
  have fM : v_fr [] [] M M := v_frR
  unfold f_X12_stands_L59 at h
  exact v_frT fM (fw_X12_stands_L63 h)
theorem fw_X12_stands_L41 {N : Nat} {s1 : Nat} {x2 : Int32} {M : v_M} {out : Int32 × v_M} (h : f_X12_stands_L41 N s1 x2 M = some out) : v_fr [] [] M out.2 := by
  have fM : v_fr [] [] M M := v_frR
  unfold f_X12_stands_L41 at h
  obtain ⟨z1, hz1, h⟩ := v_bdS h
  have fz1 : v_fr [] [] M z1.2 := v_frt (by simp) (by simp) fM (fr_J0_length_8abf5 hz1)
  rcases v_iteS h with ⟨c, h⟩ | ⟨c, h⟩
  · exact v_frT fz1 (fw_X12_stands_L59 h)
  · exact v_frT fz1 (fw_X12_stands_L59 h)
theorem fv_X12_stands_L5 {N : Nat} {out : Int32 × v_M} (n : Nat) : ∀ (s1 : Nat) (x2 : Int32) (M : v_M), f_X12_stands_L5 N n s1 x2 M = some out → v_fr [] [] M out.2 := by
  induction n with
  | zero => intro s1 x2 M h; rw [f_X12_stands_L5] at h; cases h
  | succ n ih =>
    intro s1 x2 M h
    have fM : v_fr [] [] M M := v_frR
    rw [f_X12_stands_L5] at h
    rcases v_iteS h with ⟨c, h⟩ | ⟨c, h⟩
    · exact v_frT fM (fw_X12_stands_L41 h)
    · obtain ⟨hb, h⟩ := v_ckS h
      rcases v_iteS h with ⟨c, h⟩ | ⟨c, h⟩
      · exact v_frT fM (fw_X12_stands_L41 h)
      · obtain ⟨hb, h⟩ := v_ckS h
        rcases v_iteS h with ⟨c, h⟩ | ⟨c, h⟩
        · exact v_frT fM (fw_X12_stands_L41 h)
        · exact v_frT fM (ih _ _ _ h)
theorem fw_X12_stands_L5 {N n : Nat} {s1 : Nat} {x2 : Int32} {M : v_M} {out : Int32 × v_M} (h : f_X12_stands_L5 N n s1 x2 M = some out) : v_fr [] [] M out.2 := fv_X12_stands_L5 n s1 x2 M h
theorem fr_X12_stands {N : Nat} {s1 : Nat} {M : v_M} {out : Int32 × v_M} (h : f_X12_stands N s1 M = some out) : v_fr [] [] M out.2 := by
  have fM : v_fr [] [] M M := v_frR
  unfold f_X12_stands at h
  obtain ⟨y1, ey1, h⟩ := v_ltM h
  exact v_frT fM (fw_X12_stands_L5 h)
theorem fw_X12_takes__L27 {N : Nat} {x2 : Int32} {t0 : Int32} {t1 : Int32} {M : v_M} {out : Int32 × v_M} (h : f_X12_takes__L27 N x2 t0 t1 M = some out) : v_fr [] [(79, 33)] M out.2 := by
  have fM : v_fr [] [(79, 33)] M M := v_frR
  unfold f_X12_takes__L27 at h
  obtain ⟨M1, eM1, h⟩ := v_ltM h
  have fM1 : v_fr [] [(79, 33)] M M1 := by rw [eM1]; exact v_fro (by simp) fM
  obtain ⟨hb, h⟩ := v_ckS h
  have h := Option.some.inj h
  subst h
  exact fM1
theorem fr_X12_takes_ {N : Nat} {s1 : Nat} {M : v_M} {out : Int32 × v_M} (h : f_X12_takes_ N s1 M = some out) : v_fr [] [(79, 33)] M out.2 := by
  have fM : v_fr [] [(79, 33)] M M := v_frR
  unfold f_X12_takes_ at h
  obtain ⟨z1, hz1, h⟩ := v_bdS h
  have fz1 : v_fr [] [(79, 33)] M z1.2 := v_frt (by simp) (by simp) fM (fr_X12_blanks hz1)
  obtain ⟨z2, hz2, h⟩ := v_bdS h
  have fz2 : v_fr [] [(79, 33)] M z2.2 := v_frt (by simp) (by simp) fz1 (fr_X12_stands hz2)
  obtain ⟨y3, ey3, h⟩ := v_ltM h
  rcases v_iteS h with ⟨c, h⟩ | ⟨c, h⟩
  · exact v_frT fz2 (fw_X12_takes__L27 h)
  · obtain ⟨z4, hz4, h⟩ := v_bdS h
    have fz4 : v_fr [] [(79, 33)] M z4.2 := v_frt (by simp) (by simp) fz2 (fr_J0_length_8abf5 hz4)
    exact v_frT fz4 (fw_X12_takes__L27 h)
theorem fr_X12_entry {N : Nat} {x1 : Int32} {x2 : Int32} {M : v_M} {out : Int32 × v_M} (h : f_X12_entry N x1 x2 M = some out) : v_fr [108, 109] [(79, 36)] M out.2 := by
  have fM : v_fr [108, 109] [(79, 36)] M M := v_frR
  unfold f_X12_entry at h
  rcases v_iteS h with ⟨c, h⟩ | ⟨c, h⟩
  · obtain ⟨hb, h⟩ := v_ckS h
    obtain ⟨M1, eM1, h⟩ := v_ltM h
    have fM1 : v_fr [108, 109] [(79, 36)] M M1 := by rw [eM1]; exact v_frw (by simp) fM
    obtain ⟨hb, h⟩ := v_ckS h
    obtain ⟨M2, eM2, h⟩ := v_ltM h
    have fM2 : v_fr [108, 109] [(79, 36)] M M2 := by rw [eM2]; exact v_frw (by simp) fM1
    obtain ⟨M3, eM3, h⟩ := v_ltM h
    have fM3 : v_fr [108, 109] [(79, 36)] M M3 := by rw [eM3]; exact v_fro (by simp) fM2
    have h := Option.some.inj h
    subst h
    exact fM3
  · have h := Option.some.inj h
    subst h
    exact fM
theorem fw_X12_isCounted_L15 {N : Nat} {M : v_M} {out : Int32 × v_M} (h : f_X12_isCounted_L15 N M = some out) : v_fr [] [(79, 34), (79, 38)] M out.2 := by
  have fM : v_fr [] [(79, 34), (79, 38)] M M := v_frR
  unfold f_X12_isCounted_L15 at h
  obtain ⟨M1, eM1, h⟩ := v_ltM h
  have fM1 : v_fr [] [(79, 34), (79, 38)] M M1 := by rw [eM1]; exact v_fro (by simp) fM
  have h := Option.some.inj h
  subst h
  exact fM1
theorem fr_X12_isCounted {N : Nat} {x1 : Int32} {M : v_M} {out : Int32 × v_M} (h : f_X12_isCounted N x1 M = some out) : v_fr [] [(79, 34), (79, 38)] M out.2 := by
  have fM : v_fr [] [(79, 34), (79, 38)] M M := v_frR
  unfold f_X12_isCounted at h
  rcases v_iteS h with ⟨c, h⟩ | ⟨c, h⟩
  · obtain ⟨z1, hz1, h⟩ := v_bdS h
    have fz1 : v_fr [] [(79, 34), (79, 38)] M z1.2 := v_frt (by simp) (by simp) fM (fr_X12_fails hz1)
    exact v_frT fz1 (fw_X12_isCounted_L15 h)
  · exact v_frT fM (fw_X12_isCounted_L15 h)
theorem fw_X12_digits_L87 {N : Nat} {x2 : Int32} {x3 : Int32} {M : v_M} {out : Int32 × v_M} (h : f_X12_digits_L87 N x2 x3 M = some out) : v_fr [] [(79, 33), (79, 34)] M out.2 := by
  have fM : v_fr [] [(79, 33), (79, 34)] M M := v_frR
  unfold f_X12_digits_L87 at h
  obtain ⟨z1, hz1, h⟩ := v_bdS h
  have fz1 : v_fr [] [(79, 33), (79, 34)] M z1.2 := v_frt (by simp) (by simp) fM (fr_X12_fails hz1)
  have h := Option.some.inj h
  subst h
  exact fz1
theorem fw_X12_digits_L58 {N : Nat} {x1 : Int32} {x2 : Int32} {t0 : Int32} {M : v_M} {out : Int32 × v_M} {k25 : Int32 → Int32 → Int32 → v_M → Option (Int32 × v_M)} (hk25 : ∀ (x1 : Int32) (x2 : Int32) (x3 : Int32) (M : v_M), k25 x1 x2 x3 M = some out → v_fr [] [(79, 33), (79, 34)] M out.2) (h : f_X12_digits_L58 N k25 x1 x2 t0 M = some out) : v_fr [] [(79, 33), (79, 34)] M out.2 := by
  have fM : v_fr [] [(79, 33), (79, 34)] M M := v_frR
  unfold f_X12_digits_L58 at h
  obtain ⟨M1, eM1, h⟩ := v_ltM h
  have fM1 : v_fr [] [(79, 33), (79, 34)] M M1 := by rw [eM1]; exact v_fro (by simp) fM
  exact v_frT fM1 (hk25 _ _ _ _ h)
theorem fv_X12_digits_L25 {N : Nat} {out : Int32 × v_M} (n : Nat) : ∀ (x1 : Int32) (x2 : Int32) (x3 : Int32) (M : v_M), f_X12_digits_L25 N n x1 x2 x3 M = some out → v_fr [] [(79, 33), (79, 34)] M out.2 := by
  induction n with
  | zero => intro x1 x2 x3 M h; rw [f_X12_digits_L25] at h; cases h
  | succ n ih =>
    intro x1 x2 x3 M h
    have fM : v_fr [] [(79, 33), (79, 34)] M M := v_frR
    rw [f_X12_digits_L25] at h
    obtain ⟨z1, hz1, h⟩ := v_bdS h
    have fz1 : v_fr [] [(79, 33), (79, 34)] M z1.2 := v_frt (by simp) (by simp) fM (fr_X12_isDigit hz1)
    rcases v_iteS h with ⟨c, h⟩ | ⟨c, h⟩
    · rcases v_iteS h with ⟨c, h⟩ | ⟨c, h⟩
      · exact v_frT fz1 (fw_X12_digits_L87 h)
      · rcases v_iteS h with ⟨c, h⟩ | ⟨c, h⟩
        · have h := Option.some.inj h
          subst h
          exact fz1
        · exact v_frT fz1 (fw_X12_digits_L87 h)
    · rcases v_iteS h with ⟨c, h⟩ | ⟨c, h⟩
      · exact v_frT fz1 (fw_X12_digits_L58 ih h)
      · obtain ⟨z2, hz2, h⟩ := v_bdS h
        have fz2 : v_fr [] [(79, 33), (79, 34)] M z2.2 := v_frt (by simp) (by simp) fz1 (fr_X12_sign hz2)
        exact v_frT fz2 (fw_X12_digits_L58 ih h)
theorem fw_X12_digits_L25 {N n : Nat} {x1 : Int32} {x2 : Int32} {x3 : Int32} {M : v_M} {out : Int32 × v_M} (h : f_X12_digits_L25 N n x1 x2 x3 M = some out) : v_fr [] [(79, 33), (79, 34)] M out.2 := fv_X12_digits_L25 n x1 x2 x3 M h
theorem fr_X12_digits {N : Nat} {x1 : Int32} {M : v_M} {out : Int32 × v_M} (h : f_X12_digits N x1 M = some out) : v_fr [] [(79, 33), (79, 34)] M out.2 := by
  have fM : v_fr [] [(79, 33), (79, 34)] M M := v_frR
  unfold f_X12_digits at h
  obtain ⟨z1, hz1, h⟩ := v_bdS h
  have fz1 : v_fr [] [(79, 33), (79, 34)] M z1.2 := v_frt (by simp) (by simp) fM (fr_X12_isDigit hz1)
  rcases v_iteS h with ⟨c, h⟩ | ⟨c, h⟩
  · obtain ⟨z3, hz3, h⟩ := v_bdS h
    have fz3 : v_fr [] [(79, 33), (79, 34)] M z3.2 := v_frt (by simp) (by simp) fz1 (fr_X12_fails hz3)
    have h := Option.some.inj h
    subst h
    exact fz3
  · obtain ⟨y2, ey2, h⟩ := v_ltM h
    exact v_frT fz1 (fw_X12_digits_L25 h)
theorem fw_X12_value_L61 {N : Nat} {x1 : Int32} {x2 : Int32} {M : v_M} {out : Int32 × v_M} (h : f_X12_value_L61 N x1 x2 M = some out) : v_fr [108, 109] [(79, 33), (79, 34), (79, 36), (79, 38)] M out.2 := by
  have fM : v_fr [108, 109] [(79, 33), (79, 34), (79, 36), (79, 38)] M M := v_frR
  unfold f_X12_value_L61 at h
  rcases v_iteS h with ⟨c, h⟩ | ⟨c, h⟩
  · obtain ⟨z6, hz6, h⟩ := v_bdS h
    have fz6 : v_fr [108, 109] [(79, 33), (79, 34), (79, 36), (79, 38)] M z6.2 := v_frt (by simp) (by simp) fM (fr_X12_fails hz6)
    have h := Option.some.inj h
    subst h
    exact fz6
  · obtain ⟨z1, hz1, h⟩ := v_bdS h
    have fz1 : v_fr [108, 109] [(79, 33), (79, 34), (79, 36), (79, 38)] M z1.2 := v_frt (by simp) (by simp) fM (fr_X12_isCounted hz1)
    obtain ⟨z2, hz2, h⟩ := v_bdS h
    have fz2 : v_fr [108, 109] [(79, 33), (79, 34), (79, 36), (79, 38)] M z2.2 := v_frt (by simp) (by simp) fz1 (fr_X12_wordOf hz2)
    obtain ⟨z3, hz3, h⟩ := v_bdS h
    have fz3 : v_fr [108, 109] [(79, 33), (79, 34), (79, 36), (79, 38)] M z3.2 := v_frt (by simp) (by simp) fz2 (fr_J0_length_8abf5 hz3)
    obtain ⟨M4, eM4, h⟩ := v_ltM h
    have fM4 : v_fr [108, 109] [(79, 33), (79, 34), (79, 36), (79, 38)] M M4 := by rw [eM4]; exact v_fro (by simp) fz3
    obtain ⟨z5, hz5, h⟩ := v_bdS h
    have fz5 : v_fr [108, 109] [(79, 33), (79, 34), (79, 36), (79, 38)] M z5.2 := v_frt (by simp) (by simp) fM4 (fr_X12_entry hz5)
    have h := Option.some.inj h
    subst h
    exact fz5
theorem fv_X12_value_L38 {N : Nat} {out : Int32 × v_M} (n : Nat) : ∀ (x1 : Int32) (x2 : Int32) (M : v_M), f_X12_value_L38 N n x1 x2 M = some out → v_fr [108, 109] [(79, 33), (79, 34), (79, 36), (79, 38)] M out.2 := by
  induction n with
  | zero => intro x1 x2 M h; rw [f_X12_value_L38] at h; cases h
  | succ n ih =>
    intro x1 x2 M h
    have fM : v_fr [108, 109] [(79, 33), (79, 34), (79, 36), (79, 38)] M M := v_frR
    rw [f_X12_value_L38] at h
    rcases v_iteS h with ⟨c, h⟩ | ⟨c, h⟩
    · exact v_frT fM (fw_X12_value_L61 h)
    · obtain ⟨z1, hz1, h⟩ := v_bdS h
      have fz1 : v_fr [108, 109] [(79, 33), (79, 34), (79, 36), (79, 38)] M z1.2 := v_frt (by simp) (by simp) fM (fr_X12_wordOf hz1)
      obtain ⟨z2, hz2, h⟩ := v_bdS h
      have fz2 : v_fr [108, 109] [(79, 33), (79, 34), (79, 36), (79, 38)] M z2.2 := v_frt (by simp) (by simp) fz1 (fr_X12_stands hz2)
      rcases v_iteS h with ⟨c, h⟩ | ⟨c, h⟩
      · exact v_frT fz2 (ih _ _ _ h)
      · exact v_frT fz2 (fw_X12_value_L61 h)
theorem fw_X12_value_L38 {N n : Nat} {x1 : Int32} {x2 : Int32} {M : v_M} {out : Int32 × v_M} (h : f_X12_value_L38 N n x1 x2 M = some out) : v_fr [108, 109] [(79, 33), (79, 34), (79, 36), (79, 38)] M out.2 := fv_X12_value_L38 n x1 x2 M h
theorem fr_X12_value {N : Nat} {M : v_M} {out : Int32 × v_M} (h : f_X12_value N M = some out) : v_fr [108, 109] [(79, 33), (79, 34), (79, 36), (79, 38)] M out.2 := by
  have fM : v_fr [108, 109] [(79, 33), (79, 34), (79, 36), (79, 38)] M M := v_frR
  unfold f_X12_value at h
  obtain ⟨z1, hz1, h⟩ := v_bdS h
  have fz1 : v_fr [108, 109] [(79, 33), (79, 34), (79, 36), (79, 38)] M z1.2 := v_frt (by simp) (by simp) fM (fr_X12_blanks hz1)
  obtain ⟨y2, ey2, h⟩ := v_ltM h
  obtain ⟨z3, hz3, h⟩ := v_bdS h
  have fz3 : v_fr [108, 109] [(79, 33), (79, 34), (79, 36), (79, 38)] M z3.2 := v_frt (by simp) (by simp) fz1 (fr_X12_isDigit hz3)
  rcases v_iteS h with ⟨c, h⟩ | ⟨c, h⟩
  · exact v_frT fz3 (fw_X12_value_L38 h)
  · obtain ⟨z4, hz4, h⟩ := v_bdS h
    have fz4 : v_fr [108, 109] [(79, 33), (79, 34), (79, 36), (79, 38)] M z4.2 := v_frt (by simp) (by simp) fz3 (fr_X12_digits hz4)
    obtain ⟨y5, ey5, h⟩ := v_ltM h
    obtain ⟨z6, hz6, h⟩ := v_bdS h
    have fz6 : v_fr [108, 109] [(79, 33), (79, 34), (79, 36), (79, 38)] M z6.2 := v_frt (by simp) (by simp) fz4 (fr_X12_isCounted hz6)
    obtain ⟨z7, hz7, h⟩ := v_bdS h
    have fz7 : v_fr [108, 109] [(79, 33), (79, 34), (79, 36), (79, 38)] M z7.2 := v_frt (by simp) (by simp) fz6 (fr_X12_entry hz7)
    have h := Option.some.inj h
    subst h
    exact fz7
theorem fw_X12_sum_L47 {N : Nat} {t0 : Int32} {M : v_M} {out : Int32 × v_M} {k8 : v_M → Option (Int32 × v_M)} (hk8 : ∀ (M : v_M), k8 M = some out → v_fr [108, 109] [(79, 33), (79, 34), (79, 36), (79, 38)] M out.2) (h : f_X12_sum_L47 N k8 t0 M = some out) : v_fr [108, 109] [(79, 33), (79, 34), (79, 36), (79, 38)] M out.2 := by
  have fM : v_fr [108, 109] [(79, 33), (79, 34), (79, 36), (79, 38)] M M := v_frR
  unfold f_X12_sum_L47 at h
  obtain ⟨M1, eM1, h⟩ := v_ltM h
  have fM1 : v_fr [108, 109] [(79, 33), (79, 34), (79, 36), (79, 38)] M M1 := by rw [eM1]; exact v_fro (by simp) fM
  obtain ⟨z2, hz2, h⟩ := v_bdS h
  have fz2 : v_fr [108, 109] [(79, 33), (79, 34), (79, 36), (79, 38)] M z2.2 := v_frt (by simp) (by simp) fM1 (fr_X12_value hz2)
  obtain ⟨z3, hz3, h⟩ := v_bdS h
  have fz3 : v_fr [108, 109] [(79, 33), (79, 34), (79, 36), (79, 38)] M z3.2 := v_frt (by simp) (by simp) fz2 (fr_X12_entry hz3)
  obtain ⟨z4, hz4, h⟩ := v_bdS h
  have fz4 : v_fr [108, 109] [(79, 33), (79, 34), (79, 36), (79, 38)] M z4.2 := v_frt (by simp) (by simp) fz3 (fr_X12_blanks hz4)
  exact v_frT fz4 (hk8  _ h)
theorem fw_X12_sum_L33 {N : Nat} {M : v_M} {out : Int32 × v_M} {k8 : v_M → Option (Int32 × v_M)} (hk8 : ∀ (M : v_M), k8 M = some out → v_fr [108, 109] [(79, 33), (79, 34), (79, 36), (79, 38)] M out.2) (h : f_X12_sum_L33 N k8 M = some out) : v_fr [108, 109] [(79, 33), (79, 34), (79, 36), (79, 38)] M out.2 := by
  have fM : v_fr [108, 109] [(79, 33), (79, 34), (79, 36), (79, 38)] M M := v_frR
  unfold f_X12_sum_L33 at h
  obtain ⟨z1, hz1, h⟩ := v_bdS h
  have fz1 : v_fr [108, 109] [(79, 33), (79, 34), (79, 36), (79, 38)] M z1.2 := v_frt (by simp) (by simp) fM (fr_X12_sign hz1)
  rcases v_iteS h with ⟨c, h⟩ | ⟨c, h⟩
  · exact v_frT fz1 (fw_X12_sum_L47 hk8 h)
  · exact v_frT fz1 (fw_X12_sum_L47 hk8 h)
theorem fv_X12_sum_L8 {N : Nat} {out : Int32 × v_M} (n : Nat) : ∀ (M : v_M), f_X12_sum_L8 N n M = some out → v_fr [108, 109] [(79, 33), (79, 34), (79, 36), (79, 38)] M out.2 := by
  induction n with
  | zero => intro M h; rw [f_X12_sum_L8] at h; cases h
  | succ n ih =>
    intro M h
    have fM : v_fr [108, 109] [(79, 33), (79, 34), (79, 36), (79, 38)] M M := v_frR
    rw [f_X12_sum_L8] at h
    rcases v_iteS h with ⟨c, h⟩ | ⟨c, h⟩
    · obtain ⟨z1, hz1, h⟩ := v_bdS h
      have fz1 : v_fr [108, 109] [(79, 33), (79, 34), (79, 36), (79, 38)] M z1.2 := v_frt (by simp) (by simp) fM (fr_X12_sign hz1)
      rcases v_iteS h with ⟨c, h⟩ | ⟨c, h⟩
      · exact v_frT fz1 (fw_X12_sum_L33 ih h)
      · obtain ⟨z2, hz2, h⟩ := v_bdS h
        have fz2 : v_fr [108, 109] [(79, 33), (79, 34), (79, 36), (79, 38)] M z2.2 := v_frt (by simp) (by simp) fz1 (fr_X12_sign hz2)
        rcases v_iteS h with ⟨c, h⟩ | ⟨c, h⟩
        · exact v_frT fz2 (fw_X12_sum_L33 ih h)
        · have h := Option.some.inj h
          subst h
          exact fz2
    · have h := Option.some.inj h
      subst h
      exact fM
theorem fw_X12_sum_L8 {N n : Nat} {M : v_M} {out : Int32 × v_M} (h : f_X12_sum_L8 N n M = some out) : v_fr [108, 109] [(79, 33), (79, 34), (79, 36), (79, 38)] M out.2 := fv_X12_sum_L8 n M h
theorem fr_X12_sum {N : Nat} {M : v_M} {out : Int32 × v_M} (h : f_X12_sum N M = some out) : v_fr [108, 109] [(79, 33), (79, 34), (79, 36), (79, 38)] M out.2 := by
  have fM : v_fr [108, 109] [(79, 33), (79, 34), (79, 36), (79, 38)] M M := v_frR
  unfold f_X12_sum at h
  obtain ⟨z1, hz1, h⟩ := v_bdS h
  have fz1 : v_fr [108, 109] [(79, 33), (79, 34), (79, 36), (79, 38)] M z1.2 := v_frt (by simp) (by simp) fM (fr_X12_value hz1)
  obtain ⟨z2, hz2, h⟩ := v_bdS h
  have fz2 : v_fr [108, 109] [(79, 33), (79, 34), (79, 36), (79, 38)] M z2.2 := v_frt (by simp) (by simp) fz1 (fr_X12_blanks hz2)
  exact v_frT fz2 (fw_X12_sum_L8 h)
theorem fw_X12_compared_L90 {N : Nat} {x1 : Int32} {x2 : Int32} {t0 : Int32} {t1 : Int32} {M : v_M} {out : Int32 × v_M} (h : f_X12_compared_L90 N x1 x2 t0 t1 M = some out) : v_fr [108, 109] [(79, 33), (79, 34), (79, 36), (79, 38)] M out.2 := by
  have fM : v_fr [108, 109] [(79, 33), (79, 34), (79, 36), (79, 38)] M M := v_frR
  unfold f_X12_compared_L90 at h
  obtain ⟨M1, eM1, h⟩ := v_ltM h
  have fM1 : v_fr [108, 109] [(79, 33), (79, 34), (79, 36), (79, 38)] M M1 := by rw [eM1]; exact v_fro (by simp) fM
  obtain ⟨z2, hz2, h⟩ := v_bdS h
  have fz2 : v_fr [108, 109] [(79, 33), (79, 34), (79, 36), (79, 38)] M z2.2 := v_frt (by simp) (by simp) fM1 (fr_X12_sum hz2)
  rcases v_iteS h with ⟨c, h⟩ | ⟨c, h⟩
  · obtain ⟨z7, hz7, h⟩ := v_bdS h
    have fz7 : v_fr [108, 109] [(79, 33), (79, 34), (79, 36), (79, 38)] M z7.2 := v_frt (by simp) (by simp) fz2 (fr_X12_entry hz7)
    have h := Option.some.inj h
    subst h
    exact fz7
  · rcases v_iteS h with ⟨c, h⟩ | ⟨c, h⟩
    · rcases v_iteS h with ⟨c, h⟩ | ⟨c, h⟩
      · obtain ⟨z5, hz5, h⟩ := v_bdS h
        have fz5 : v_fr [108, 109] [(79, 33), (79, 34), (79, 36), (79, 38)] M z5.2 := v_frt (by simp) (by simp) fz2 (fr_X12_entry hz5)
        have h := Option.some.inj h
        subst h
        exact fz5
      · obtain ⟨z6, hz6, h⟩ := v_bdS h
        have fz6 : v_fr [108, 109] [(79, 33), (79, 34), (79, 36), (79, 38)] M z6.2 := v_frt (by simp) (by simp) fz2 (fr_X12_entry hz6)
        have h := Option.some.inj h
        subst h
        exact fz6
    · rcases v_iteS h with ⟨c, h⟩ | ⟨c, h⟩
      · obtain ⟨z3, hz3, h⟩ := v_bdS h
        have fz3 : v_fr [108, 109] [(79, 33), (79, 34), (79, 36), (79, 38)] M z3.2 := v_frt (by simp) (by simp) fz2 (fr_X12_entry hz3)
        have h := Option.some.inj h
        subst h
        exact fz3
      · obtain ⟨z4, hz4, h⟩ := v_bdS h
        have fz4 : v_fr [108, 109] [(79, 33), (79, 34), (79, 36), (79, 38)] M z4.2 := v_frt (by simp) (by simp) fz2 (fr_X12_entry hz4)
        have h := Option.some.inj h
        subst h
        exact fz4
theorem fw_X12_compared_L75 {N : Nat} {x1 : Int32} {t0 : Int32} {M : v_M} {out : Int32 × v_M} (h : f_X12_compared_L75 N x1 t0 M = some out) : v_fr [108, 109] [(79, 33), (79, 34), (79, 36), (79, 38)] M out.2 := by
  have fM : v_fr [108, 109] [(79, 33), (79, 34), (79, 36), (79, 38)] M M := v_frR
  unfold f_X12_compared_L75 at h
  rcases v_iteS h with ⟨c, h⟩ | ⟨c, h⟩
  · exact v_frT fM (fw_X12_compared_L90 h)
  · exact v_frT fM (fw_X12_compared_L90 h)
theorem fw_X12_compared_L74 {N : Nat} {x1 : Int32} {M : v_M} {out : Int32 × v_M} (h : f_X12_compared_L74 N x1 M = some out) : v_fr [108, 109] [(79, 33), (79, 34), (79, 36), (79, 38)] M out.2 := by
  have fM : v_fr [108, 109] [(79, 33), (79, 34), (79, 36), (79, 38)] M M := v_frR
  unfold f_X12_compared_L74 at h
  exact v_frT fM (fw_X12_compared_L75 h)
theorem fw_X12_compared_L37 {N : Nat} {x1 : Int32} {M : v_M} {out : Int32 × v_M} (h : f_X12_compared_L37 N x1 M = some out) : v_fr [108, 109] [(79, 33), (79, 34), (79, 36), (79, 38)] M out.2 := by
  have fM : v_fr [108, 109] [(79, 33), (79, 34), (79, 36), (79, 38)] M M := v_frR
  unfold f_X12_compared_L37 at h
  obtain ⟨z1, hz1, h⟩ := v_bdS h
  have fz1 : v_fr [108, 109] [(79, 33), (79, 34), (79, 36), (79, 38)] M z1.2 := v_frt (by simp) (by simp) fM (fr_X12_isCounted hz1)
  obtain ⟨M2, eM2, h⟩ := v_ltM h
  have fM2 : v_fr [108, 109] [(79, 33), (79, 34), (79, 36), (79, 38)] M M2 := by rw [eM2]; exact v_fro (by simp) fz1
  rcases v_iteS h with ⟨c, h⟩ | ⟨c, h⟩
  · exact v_frT fM2 (fw_X12_compared_L74 h)
  · obtain ⟨z3, hz3, h⟩ := v_bdS h
    have fz3 : v_fr [108, 109] [(79, 33), (79, 34), (79, 36), (79, 38)] M z3.2 := v_frt (by simp) (by simp) fM2 (fr_X12_sign hz3)
    rcases v_iteS h with ⟨c, h⟩ | ⟨c, h⟩
    · exact v_frT fz3 (fw_X12_compared_L75 h)
    · exact v_frT fz3 (fw_X12_compared_L74 h)
theorem fr_X12_compared {N : Nat} {M : v_M} {out : Int32 × v_M} (h : f_X12_compared N M = some out) : v_fr [108, 109] [(79, 33), (79, 34), (79, 36), (79, 38)] M out.2 := by
  have fM : v_fr [108, 109] [(79, 33), (79, 34), (79, 36), (79, 38)] M M := v_frR
  unfold f_X12_compared at h
  obtain ⟨z1, hz1, h⟩ := v_bdS h
  have fz1 : v_fr [108, 109] [(79, 33), (79, 34), (79, 36), (79, 38)] M z1.2 := v_frt (by simp) (by simp) fM (fr_X12_sum hz1)
  obtain ⟨z2, hz2, h⟩ := v_bdS h
  have fz2 : v_fr [108, 109] [(79, 33), (79, 34), (79, 36), (79, 38)] M z2.2 := v_frt (by simp) (by simp) fz1 (fr_X12_sign hz2)
  obtain ⟨y3, ey3, h⟩ := v_ltM h
  rcases v_iteS h with ⟨c, h⟩ | ⟨c, h⟩
  · exact v_frT fz2 (fw_X12_compared_L37 h)
  · rcases v_iteS h with ⟨c, h⟩ | ⟨c, h⟩
    · exact v_frT fz2 (fw_X12_compared_L37 h)
    · rcases v_iteS h with ⟨c, h⟩ | ⟨c, h⟩
      · exact v_frT fz2 (fw_X12_compared_L37 h)
      · obtain ⟨z4, hz4, h⟩ := v_bdS h
        have fz4 : v_fr [108, 109] [(79, 33), (79, 34), (79, 36), (79, 38)] M z4.2 := v_frt (by simp) (by simp) fz2 (fr_X12_fails hz4)
        have h := Option.some.inj h
        subst h
        exact fz4
theorem fr_X12_top {N : Nat} {M : v_M} {out : Int32 × v_M} (h : f_X12_top N M = some out) : v_fr [] [] M out.2 := by
  have fM : v_fr [] [] M M := v_frR
  unfold f_X12_top at h
  rcases v_iteS h with ⟨c, h⟩ | ⟨c, h⟩
  · have h := Option.some.inj h
    subst h
    exact fM
  · obtain ⟨hb, h⟩ := v_ckS h
    have h := Option.some.inj h
    subst h
    exact fM
theorem fw_X12_opens_L40 {N : Nat} {x1 : Int32} {M : v_M} {out : Int32 × v_M} (h : f_X12_opens_L40 N x1 M = some out) : v_fr [119] [(79, 34), (79, 37), (79, 39)] M out.2 := by
  have fM : v_fr [119] [(79, 34), (79, 37), (79, 39)] M M := v_frR
  unfold f_X12_opens_L40 at h
  obtain ⟨hb, h⟩ := v_ckS h
  obtain ⟨M1, eM1, h⟩ := v_ltM h
  have fM1 : v_fr [119] [(79, 34), (79, 37), (79, 39)] M M1 := by rw [eM1]; exact v_frw (by simp) fM
  obtain ⟨M2, eM2, h⟩ := v_ltM h
  have fM2 : v_fr [119] [(79, 34), (79, 37), (79, 39)] M M2 := by rw [eM2]; exact v_fro (by simp) fM1
  have h := Option.some.inj h
  subst h
  exact fM2
theorem fw_X12_opens_L30 {N : Nat} {x1 : Int32} {M : v_M} {out : Int32 × v_M} (h : f_X12_opens_L30 N x1 M = some out) : v_fr [119] [(79, 34), (79, 37), (79, 39)] M out.2 := by
  have fM : v_fr [119] [(79, 34), (79, 37), (79, 39)] M M := v_frR
  unfold f_X12_opens_L30 at h
  obtain ⟨M1, eM1, h⟩ := v_ltM h
  have fM1 : v_fr [119] [(79, 34), (79, 37), (79, 39)] M M1 := by rw [eM1]; exact v_fro (by simp) fM
  exact v_frT fM1 (fw_X12_opens_L40 h)
theorem fw_X12_opens_L12 {N : Nat} {x1 : Int32} {M : v_M} {out : Int32 × v_M} (h : f_X12_opens_L12 N x1 M = some out) : v_fr [119] [(79, 34), (79, 37), (79, 39)] M out.2 := by
  have fM : v_fr [119] [(79, 34), (79, 37), (79, 39)] M M := v_frR
  unfold f_X12_opens_L12 at h
  rcases v_iteS h with ⟨c, h⟩ | ⟨c, h⟩
  · obtain ⟨z1, hz1, h⟩ := v_bdS h
    have fz1 : v_fr [119] [(79, 34), (79, 37), (79, 39)] M z1.2 := v_frt (by simp) (by simp) fM (fr_X12_fails hz1)
    exact v_frT fz1 (fw_X12_opens_L30 h)
  · exact v_frT fM (fw_X12_opens_L30 h)
theorem fr_X12_opens {N : Nat} {x1 : Int32} {M : v_M} {out : Int32 × v_M} (h : f_X12_opens N x1 M = some out) : v_fr [119] [(79, 34), (79, 37), (79, 39)] M out.2 := by
  have fM : v_fr [119] [(79, 34), (79, 37), (79, 39)] M M := v_frR
  unfold f_X12_opens at h
  rcases v_iteS h with ⟨c, h⟩ | ⟨c, h⟩
  · exact v_frT fM (fw_X12_opens_L12 h)
  · rcases v_iteS h with ⟨c, h⟩ | ⟨c, h⟩
    · exact v_frT fM (fw_X12_opens_L12 h)
    · exact v_frT fM (fw_X12_opens_L40 h)
theorem fw_X12_answers_L47 {N : Nat} {x1 : Int32} {t0 : Int32} {t1 : Int32} {M : v_M} {out : Int32 × v_M} {k0 : Int32 → v_M → Option (Int32 × v_M)} (hk0 : ∀ (x1 : Int32) (M : v_M), k0 x1 M = some out → v_fr [108, 109] [(79, 36), (79, 37), (79, 39)] M out.2) (h : f_X12_answers_L47 N k0 x1 t0 t1 M = some out) : v_fr [108, 109] [(79, 36), (79, 37), (79, 39)] M out.2 := by
  have fM : v_fr [108, 109] [(79, 36), (79, 37), (79, 39)] M M := v_frR
  unfold f_X12_answers_L47 at h
  obtain ⟨M1, eM1, h⟩ := v_ltM h
  have fM1 : v_fr [108, 109] [(79, 36), (79, 37), (79, 39)] M M1 := by rw [eM1]; exact v_fro (by simp) fM
  exact v_frT fM1 (hk0 _ _ h)
theorem fv_X12_answers_L0 {N : Nat} {out : Int32 × v_M} (n : Nat) : ∀ (x1 : Int32) (M : v_M), f_X12_answers_L0 N n x1 M = some out → v_fr [108, 109] [(79, 36), (79, 37), (79, 39)] M out.2 := by
  induction n with
  | zero => intro x1 M h; rw [f_X12_answers_L0] at h; cases h
  | succ n ih =>
    intro x1 M h
    have fM : v_fr [108, 109] [(79, 36), (79, 37), (79, 39)] M M := v_frR
    rw [f_X12_answers_L0] at h
    obtain ⟨z1, hz1, h⟩ := v_bdS h
    have fz1 : v_fr [108, 109] [(79, 36), (79, 37), (79, 39)] M z1.2 := v_frt (by simp) (by simp) fM (fr_X12_top hz1)
    rcases v_iteS h with ⟨c, h⟩ | ⟨c, h⟩
    · rcases v_iteS h with ⟨c, h⟩ | ⟨c, h⟩
      · obtain ⟨z2, hz2, h⟩ := v_bdS h
        have fz2 : v_fr [108, 109] [(79, 36), (79, 37), (79, 39)] M z2.2 := v_frt (by simp) (by simp) fz1 (fr_X12_entry hz2)
        obtain ⟨M3, eM3, h⟩ := v_ltM h
        have fM3 : v_fr [108, 109] [(79, 36), (79, 37), (79, 39)] M M3 := by rw [eM3]; exact v_fro (by simp) fz2
        rcases v_iteS h with ⟨c, h⟩ | ⟨c, h⟩
        · exact v_frT fM3 (fw_X12_answers_L47 ih h)
        · exact v_frT fM3 (fw_X12_answers_L47 ih h)
      · have h := Option.some.inj h
        subst h
        exact fz1
    · have h := Option.some.inj h
      subst h
      exact fz1
theorem fw_X12_answers_L0 {N n : Nat} {x1 : Int32} {M : v_M} {out : Int32 × v_M} (h : f_X12_answers_L0 N n x1 M = some out) : v_fr [108, 109] [(79, 36), (79, 37), (79, 39)] M out.2 := fv_X12_answers_L0 n x1 M h
theorem fr_X12_answers {N : Nat} {x1 : Int32} {M : v_M} {out : Int32 × v_M} (h : f_X12_answers N x1 M = some out) : v_fr [108, 109] [(79, 36), (79, 37), (79, 39)] M out.2 := by
  have fM : v_fr [108, 109] [(79, 36), (79, 37), (79, 39)] M M := v_frR
  unfold f_X12_answers at h
  exact v_frT fM (fw_X12_answers_L0 h)
theorem fr_X12_fact {N : Nat} {M : v_M} {out : Int32 × v_M} (h : f_X12_fact N M = some out) : v_fr [108, 109, 119] [(79, 33), (79, 34), (79, 36), (79, 37), (79, 38), (79, 39)] M out.2 := by
  have fM : v_fr [108, 109, 119] [(79, 33), (79, 34), (79, 36), (79, 37), (79, 38), (79, 39)] M M := v_frR
  unfold f_X12_fact at h
  obtain ⟨z1, hz1, h⟩ := v_bdS h
  have fz1 : v_fr [108, 109, 119] [(79, 33), (79, 34), (79, 36), (79, 37), (79, 38), (79, 39)] M z1.2 := v_frt (by simp) (by simp) fM (fr_X12_blanks hz1)
  obtain ⟨z2, hz2, h⟩ := v_bdS h
  have fz2 : v_fr [108, 109, 119] [(79, 33), (79, 34), (79, 36), (79, 37), (79, 38), (79, 39)] M z2.2 := v_frt (by simp) (by simp) fz1 (fr_X12_stands hz2)
  rcases v_iteS h with ⟨c, h⟩ | ⟨c, h⟩
  · obtain ⟨z3, hz3, h⟩ := v_bdS h
    have fz3 : v_fr [108, 109, 119] [(79, 33), (79, 34), (79, 36), (79, 37), (79, 38), (79, 39)] M z3.2 := v_frt (by simp) (by simp) fz2 (fr_X12_sign hz3)
    rcases v_iteS h with ⟨c, h⟩ | ⟨c, h⟩
    · obtain ⟨z5, hz5, h⟩ := v_bdS h
      have fz5 : v_fr [108, 109, 119] [(79, 33), (79, 34), (79, 36), (79, 37), (79, 38), (79, 39)] M z5.2 := v_frt (by simp) (by simp) fz3 (fr_X12_opens hz5)
      obtain ⟨M6, eM6, h⟩ := v_ltM h
      have fM6 : v_fr [108, 109, 119] [(79, 33), (79, 34), (79, 36), (79, 37), (79, 38), (79, 39)] M M6 := by rw [eM6]; exact v_fro (by simp) fz5
      obtain ⟨hb, h⟩ := v_ckS h
      have h := Option.some.inj h
      subst h
      exact fM6
    · obtain ⟨z4, hz4, h⟩ := v_bdS h
      have fz4 : v_fr [108, 109, 119] [(79, 33), (79, 34), (79, 36), (79, 37), (79, 38), (79, 39)] M z4.2 := v_frt (by simp) (by simp) fz3 (fr_X12_compared hz4)
      obtain ⟨hb, h⟩ := v_ckS h
      have h := Option.some.inj h
      subst h
      exact fz4
  · obtain ⟨z7, hz7, h⟩ := v_bdS h
    have fz7 : v_fr [108, 109, 119] [(79, 33), (79, 34), (79, 36), (79, 37), (79, 38), (79, 39)] M z7.2 := v_frt (by simp) (by simp) fz2 (fr_X12_opens hz7)
    obtain ⟨M8, eM8, h⟩ := v_ltM h
    have fM8 : v_fr [108, 109, 119] [(79, 33), (79, 34), (79, 36), (79, 37), (79, 38), (79, 39)] M M8 := by rw [eM8]; exact v_fro (by simp) fz7
    obtain ⟨hb, h⟩ := v_ckS h
    have h := Option.some.inj h
    subst h
    exact fM8
theorem fw_X12_test_L199 {N : Nat} {x1 : Int32} {x2 : Int32} {M : v_M} {out : Int32 × v_M} {k9 : Int32 → Int32 → v_M → Option (Int32 × v_M)} (hk9 : ∀ (x1 : Int32) (x2 : Int32) (M : v_M), k9 x1 x2 M = some out → v_fr [108, 109, 119] [(79, 33), (79, 34), (79, 36), (79, 37), (79, 38), (79, 39)] M out.2) (h : f_X12_test_L199 N k9 x1 x2 M = some out) : v_fr [108, 109, 119] [(79, 33), (79, 34), (79, 36), (79, 37), (79, 38), (79, 39)] M out.2 := by
  have fM : v_fr [108, 109, 119] [(79, 33), (79, 34), (79, 36), (79, 37), (79, 38), (79, 39)] M M := v_frR
  unfold f_X12_test_L199 at h
  exact v_frT fM (hk9 _ _ _ h)
theorem fw_X12_test_L164 {N : Nat} {x1 : Int32} {x2 : Int32} {M : v_M} {out : Int32 × v_M} {k9 : Int32 → Int32 → v_M → Option (Int32 × v_M)} (hk9 : ∀ (x1 : Int32) (x2 : Int32) (M : v_M), k9 x1 x2 M = some out → v_fr [108, 109, 119] [(79, 33), (79, 34), (79, 36), (79, 37), (79, 38), (79, 39)] M out.2) (h : f_X12_test_L164 N k9 x1 x2 M = some out) : v_fr [108, 109, 119] [(79, 33), (79, 34), (79, 36), (79, 37), (79, 38), (79, 39)] M out.2 := by
  have fM : v_fr [108, 109, 119] [(79, 33), (79, 34), (79, 36), (79, 37), (79, 38), (79, 39)] M M := v_frR
  unfold f_X12_test_L164 at h
  obtain ⟨M1, eM1, h⟩ := v_ltM h
  have fM1 : v_fr [108, 109, 119] [(79, 33), (79, 34), (79, 36), (79, 37), (79, 38), (79, 39)] M M1 := by rw [eM1]; exact v_fro (by simp) fM
  obtain ⟨M2, eM2, h⟩ := v_ltM h
  have fM2 : v_fr [108, 109, 119] [(79, 33), (79, 34), (79, 36), (79, 37), (79, 38), (79, 39)] M M2 := by rw [eM2]; exact v_fro (by simp) fM1
  obtain ⟨M3, eM3, h⟩ := v_ltM h
  have fM3 : v_fr [108, 109, 119] [(79, 33), (79, 34), (79, 36), (79, 37), (79, 38), (79, 39)] M M3 := by rw [eM3]; exact v_fro (by simp) fM2
  exact v_frT fM3 (fw_X12_test_L199 hk9 h)
theorem fw_X12_test_L122 {N : Nat} {x2 : Int32} {t0 : Int32} {t1 : Int32} {M : v_M} {out : Int32 × v_M} {k9 : Int32 → Int32 → v_M → Option (Int32 × v_M)} (hk9 : ∀ (x1 : Int32) (x2 : Int32) (M : v_M), k9 x1 x2 M = some out → v_fr [108, 109, 119] [(79, 33), (79, 34), (79, 36), (79, 37), (79, 38), (79, 39)] M out.2) (h : f_X12_test_L122 N k9 x2 t0 t1 M = some out) : v_fr [108, 109, 119] [(79, 33), (79, 34), (79, 36), (79, 37), (79, 38), (79, 39)] M out.2 := by
  have fM : v_fr [108, 109, 119] [(79, 33), (79, 34), (79, 36), (79, 37), (79, 38), (79, 39)] M M := v_frR
  unfold f_X12_test_L122 at h
  obtain ⟨M1, eM1, h⟩ := v_ltM h
  have fM1 : v_fr [108, 109, 119] [(79, 33), (79, 34), (79, 36), (79, 37), (79, 38), (79, 39)] M M1 := by rw [eM1]; exact v_fro (by simp) fM
  exact v_frT fM1 (fw_X12_test_L199 hk9 h)
theorem fw_X12_test_L105 {N : Nat} {x2 : Int32} {x3 : Int32} {t0 : Int32} {M : v_M} {out : Int32 × v_M} {k9 : Int32 → Int32 → v_M → Option (Int32 × v_M)} (hk9 : ∀ (x1 : Int32) (x2 : Int32) (M : v_M), k9 x1 x2 M = some out → v_fr [108, 109, 119] [(79, 33), (79, 34), (79, 36), (79, 37), (79, 38), (79, 39)] M out.2) (h : f_X12_test_L105 N k9 x2 x3 t0 M = some out) : v_fr [108, 109, 119] [(79, 33), (79, 34), (79, 36), (79, 37), (79, 38), (79, 39)] M out.2 := by
  have fM : v_fr [108, 109, 119] [(79, 33), (79, 34), (79, 36), (79, 37), (79, 38), (79, 39)] M M := v_frR
  unfold f_X12_test_L105 at h
  obtain ⟨z1, hz1, h⟩ := v_bdS h
  have fz1 : v_fr [108, 109, 119] [(79, 33), (79, 34), (79, 36), (79, 37), (79, 38), (79, 39)] M z1.2 := v_frt (by simp) (by simp) fM (fr_X12_opens hz1)
  rcases v_iteS h with ⟨c, h⟩ | ⟨c, h⟩
  · exact v_frT fz1 (fw_X12_test_L122 hk9 h)
  · exact v_frT fz1 (fw_X12_test_L122 hk9 h)
theorem fw_X12_test_L93 {N : Nat} {x2 : Int32} {x3 : Int32} {M : v_M} {out : Int32 × v_M} {k9 : Int32 → Int32 → v_M → Option (Int32 × v_M)} (hk9 : ∀ (x1 : Int32) (x2 : Int32) (M : v_M), k9 x1 x2 M = some out → v_fr [108, 109, 119] [(79, 33), (79, 34), (79, 36), (79, 37), (79, 38), (79, 39)] M out.2) (h : f_X12_test_L93 N k9 x2 x3 M = some out) : v_fr [108, 109, 119] [(79, 33), (79, 34), (79, 36), (79, 37), (79, 38), (79, 39)] M out.2 := by
  have fM : v_fr [108, 109, 119] [(79, 33), (79, 34), (79, 36), (79, 37), (79, 38), (79, 39)] M M := v_frR
  unfold f_X12_test_L93 at h
  rcases v_iteS h with ⟨c, h⟩ | ⟨c, h⟩
  · exact v_frT fM (fw_X12_test_L105 hk9 h)
  · exact v_frT fM (fw_X12_test_L105 hk9 h)
theorem fw_X12_test_L82 {N : Nat} {x2 : Int32} {x3 : Int32} {x4 : Int32} {M : v_M} {out : Int32 × v_M} {k9 : Int32 → Int32 → v_M → Option (Int32 × v_M)} (hk9 : ∀ (x1 : Int32) (x2 : Int32) (M : v_M), k9 x1 x2 M = some out → v_fr [108, 109, 119] [(79, 33), (79, 34), (79, 36), (79, 37), (79, 38), (79, 39)] M out.2) (h : f_X12_test_L82 N k9 x2 x3 x4 M = some out) : v_fr [108, 109, 119] [(79, 33), (79, 34), (79, 36), (79, 37), (79, 38), (79, 39)] M out.2 := by
  have fM : v_fr [108, 109, 119] [(79, 33), (79, 34), (79, 36), (79, 37), (79, 38), (79, 39)] M M := v_frR
  unfold f_X12_test_L82 at h
  rcases v_iteS h with ⟨c, h⟩ | ⟨c, h⟩
  · exact v_frT fM (fw_X12_test_L93 hk9 h)
  · obtain ⟨z1, hz1, h⟩ := v_bdS h
    have fz1 : v_fr [108, 109, 119] [(79, 33), (79, 34), (79, 36), (79, 37), (79, 38), (79, 39)] M z1.2 := v_frt (by simp) (by simp) fM (fr_X12_answers hz1)
    exact v_frT fz1 (fw_X12_test_L93 hk9 h)
theorem fw_X12_test_L36 {N : Nat} {x2 : Int32} {t0 : Int32} {M : v_M} {out : Int32 × v_M} {k9 : Int32 → Int32 → v_M → Option (Int32 × v_M)} (hk9 : ∀ (x1 : Int32) (x2 : Int32) (M : v_M), k9 x1 x2 M = some out → v_fr [108, 109, 119] [(79, 33), (79, 34), (79, 36), (79, 37), (79, 38), (79, 39)] M out.2) (h : f_X12_test_L36 N k9 x2 t0 M = some out) : v_fr [108, 109, 119] [(79, 33), (79, 34), (79, 36), (79, 37), (79, 38), (79, 39)] M out.2 := by
  have fM : v_fr [108, 109, 119] [(79, 33), (79, 34), (79, 36), (79, 37), (79, 38), (79, 39)] M M := v_frR
  unfold f_X12_test_L36 at h
  exact v_frT fM (hk9 _ _ _ h)
theorem fv_X12_test_L9 {N : Nat} {out : Int32 × v_M} (n : Nat) : ∀ (x1 : Int32) (x2 : Int32) (M : v_M), f_X12_test_L9 N n x1 x2 M = some out → v_fr [108, 109, 119] [(79, 33), (79, 34), (79, 36), (79, 37), (79, 38), (79, 39)] M out.2 := by
  induction n with
  | zero => intro x1 x2 M h; rw [f_X12_test_L9] at h; cases h
  | succ n ih =>
    intro x1 x2 M h
    have fM : v_fr [108, 109, 119] [(79, 33), (79, 34), (79, 36), (79, 37), (79, 38), (79, 39)] M M := v_frR
    rw [f_X12_test_L9] at h
    rcases v_iteS h with ⟨c, h⟩ | ⟨c, h⟩
    · have h := Option.some.inj h
      subst h
      exact fM
    · rcases v_iteS h with ⟨c, h⟩ | ⟨c, h⟩
      · rcases v_iteS h with ⟨c, h⟩ | ⟨c, h⟩
        · obtain ⟨z1, hz1, h⟩ := v_bdS h
          have fz1 : v_fr [108, 109, 119] [(79, 33), (79, 34), (79, 36), (79, 37), (79, 38), (79, 39)] M z1.2 := v_frt (by simp) (by simp) fM (fr_X12_answers hz1)
          obtain ⟨z2, hz2, h⟩ := v_bdS h
          have fz2 : v_fr [108, 109, 119] [(79, 33), (79, 34), (79, 36), (79, 37), (79, 38), (79, 39)] M z2.2 := v_frt (by simp) (by simp) fz1 (fr_X12_blanks hz2)
          obtain ⟨z3, hz3, h⟩ := v_bdS h
          have fz3 : v_fr [108, 109, 119] [(79, 33), (79, 34), (79, 36), (79, 37), (79, 38), (79, 39)] M z3.2 := v_frt (by simp) (by simp) fz2 (fr_X12_stands hz3)
          obtain ⟨y4, ey4, h⟩ := v_ltM h
          obtain ⟨z5, hz5, h⟩ := v_bdS h
          have fz5 : v_fr [108, 109, 119] [(79, 33), (79, 34), (79, 36), (79, 37), (79, 38), (79, 39)] M z5.2 := v_frt (by simp) (by simp) fz3 (fr_X12_stands hz5)
          obtain ⟨y6, ey6, h⟩ := v_ltM h
          obtain ⟨z7, hz7, h⟩ := v_bdS h
          have fz7 : v_fr [108, 109, 119] [(79, 33), (79, 34), (79, 36), (79, 37), (79, 38), (79, 39)] M z7.2 := v_frt (by simp) (by simp) fz5 (fr_X12_answers hz7)
          rcases v_iteS h with ⟨c, h⟩ | ⟨c, h⟩
          · rcases v_iteS h with ⟨c, h⟩ | ⟨c, h⟩
            · obtain ⟨z8, hz8, h⟩ := v_bdS h
              have fz8 : v_fr [108, 109, 119] [(79, 33), (79, 34), (79, 36), (79, 37), (79, 38), (79, 39)] M z8.2 := v_frt (by simp) (by simp) fz7 (fr_X12_answers hz8)
              obtain ⟨z9, hz9, h⟩ := v_bdS h
              have fz9 : v_fr [108, 109, 119] [(79, 33), (79, 34), (79, 36), (79, 37), (79, 38), (79, 39)] M z9.2 := v_frt (by simp) (by simp) fz8 (fr_X12_top hz9)
              rcases v_iteS h with ⟨c, h⟩ | ⟨c, h⟩
              · obtain ⟨z10, hz10, h⟩ := v_bdS h
                have fz10 : v_fr [108, 109, 119] [(79, 33), (79, 34), (79, 36), (79, 37), (79, 38), (79, 39)] M z10.2 := v_frt (by simp) (by simp) fz9 (fr_X12_sign hz10)
                rcases v_iteS h with ⟨c, h⟩ | ⟨c, h⟩
                · exact v_frT fz10 (fw_X12_test_L164 ih h)
                · obtain ⟨z11, hz11, h⟩ := v_bdS h
                  have fz11 : v_fr [108, 109, 119] [(79, 33), (79, 34), (79, 36), (79, 37), (79, 38), (79, 39)] M z11.2 := v_frt (by simp) (by simp) fz10 (fr_X12_fails hz11)
                  exact v_frT fz11 (fw_X12_test_L164 ih h)
              · exact v_frT fz9 (fw_X12_test_L199 ih h)
            · exact v_frT fz7 (fw_X12_test_L82 ih h)
          · exact v_frT fz7 (fw_X12_test_L82 ih h)
        · obtain ⟨z12, hz12, h⟩ := v_bdS h
          have fz12 : v_fr [108, 109, 119] [(79, 33), (79, 34), (79, 36), (79, 37), (79, 38), (79, 39)] M z12.2 := v_frt (by simp) (by simp) fM (fr_X12_fact hz12)
          rcases v_iteS h with ⟨c, h⟩ | ⟨c, h⟩
          · exact v_frT fz12 (fw_X12_test_L36 ih h)
          · exact v_frT fz12 (fw_X12_test_L36 ih h)
      · have h := Option.some.inj h
        subst h
        exact fM
theorem fw_X12_test_L9 {N n : Nat} {x1 : Int32} {x2 : Int32} {M : v_M} {out : Int32 × v_M} (h : f_X12_test_L9 N n x1 x2 M = some out) : v_fr [108, 109, 119] [(79, 33), (79, 34), (79, 36), (79, 37), (79, 38), (79, 39)] M out.2 := fv_X12_test_L9 n x1 x2 M h
theorem fr_X12_test {N : Nat} {M : v_M} {out : Int32 × v_M} (h : f_X12_test N M = some out) : v_fr [108, 109, 119] [(79, 33), (79, 34), (79, 36), (79, 37), (79, 38), (79, 39)] M out.2 := by
  have fM : v_fr [108, 109, 119] [(79, 33), (79, 34), (79, 36), (79, 37), (79, 38), (79, 39)] M M := v_frR
  unfold f_X12_test at h
  obtain ⟨M1, eM1, h⟩ := v_ltM h
  have fM1 : v_fr [108, 109, 119] [(79, 33), (79, 34), (79, 36), (79, 37), (79, 38), (79, 39)] M M1 := by rw [eM1]; exact v_fro (by simp) fM
  exact v_frT fM1 (fw_X12_test_L9 h)
theorem fw_X12_clause_L309 {N : Nat} {x4 : Int32} {M : v_M} {out : Int32 × v_M} (h : f_X12_clause_L309 N x4 M = some out) : v_fr [108, 109, 113, 114, 115, 116, 117, 118, 119] [(79, 33), (79, 34), (79, 36), (79, 37), (79, 38), (79, 39)] M out.2 := by
  have fM : v_fr [108, 109, 113, 114, 115, 116, 117, 118, 119] [(79, 33), (79, 34), (79, 36), (79, 37), (79, 38), (79, 39)] M M := v_frR
  unfold f_X12_clause_L309 at h
  obtain ⟨hb, h⟩ := v_ckS h
  obtain ⟨M1, eM1, h⟩ := v_ltM h
  have fM1 : v_fr [108, 109, 113, 114, 115, 116, 117, 118, 119] [(79, 33), (79, 34), (79, 36), (79, 37), (79, 38), (79, 39)] M M1 := by rw [eM1]; exact v_frw (by simp) fM
  have h := Option.some.inj h
  subst h
  exact fM1
theorem fw_X12_clause_L277 {N : Nat} {x4 : Int32} {M : v_M} {out : Int32 × v_M} (h : f_X12_clause_L277 N x4 M = some out) : v_fr [108, 109, 113, 114, 115, 116, 117, 118, 119] [(79, 33), (79, 34), (79, 36), (79, 37), (79, 38), (79, 39)] M out.2 := by
  have fM : v_fr [108, 109, 113, 114, 115, 116, 117, 118, 119] [(79, 33), (79, 34), (79, 36), (79, 37), (79, 38), (79, 39)] M M := v_frR
  unfold f_X12_clause_L277 at h
  obtain ⟨hb, h⟩ := v_ckS h
  obtain ⟨M1, eM1, h⟩ := v_ltM h
  have fM1 : v_fr [108, 109, 113, 114, 115, 116, 117, 118, 119] [(79, 33), (79, 34), (79, 36), (79, 37), (79, 38), (79, 39)] M M1 := by rw [eM1]; exact v_frw (by simp) fM
  rcases v_iteS h with ⟨c, h⟩ | ⟨c, h⟩
  · obtain ⟨z2, hz2, h⟩ := v_bdS h
    have fz2 : v_fr [108, 109, 113, 114, 115, 116, 117, 118, 119] [(79, 33), (79, 34), (79, 36), (79, 37), (79, 38), (79, 39)] M z2.2 := v_frt (by simp) (by simp) fM1 (fr_X12_takes_ hz2)
    rcases v_iteS h with ⟨c, h⟩ | ⟨c, h⟩
    · exact v_frT fz2 (fw_X12_clause_L309 h)
    · obtain ⟨z3, hz3, h⟩ := v_bdS h
      have fz3 : v_fr [108, 109, 113, 114, 115, 116, 117, 118, 119] [(79, 33), (79, 34), (79, 36), (79, 37), (79, 38), (79, 39)] M z3.2 := v_frt (by simp) (by simp) fz2 (fr_X12_test hz3)
      exact v_frT fz3 (fw_X12_clause_L309 h)
  · exact v_frT fM1 (fw_X12_clause_L309 h)
theorem fw_X12_clause_L231 {N : Nat} {x4 : Int32} {x5 : Int32} {M : v_M} {out : Int32 × v_M} (h : f_X12_clause_L231 N x4 x5 M = some out) : v_fr [108, 109, 113, 114, 115, 116, 117, 118, 119] [(79, 33), (79, 34), (79, 36), (79, 37), (79, 38), (79, 39)] M out.2 := by
  have fM : v_fr [108, 109, 113, 114, 115, 116, 117, 118, 119] [(79, 33), (79, 34), (79, 36), (79, 37), (79, 38), (79, 39)] M M := v_frR
  unfold f_X12_clause_L231 at h
  rcases v_iteS h with ⟨c, h⟩ | ⟨c, h⟩
  · obtain ⟨z5, hz5, h⟩ := v_bdS h
    have fz5 : v_fr [108, 109, 113, 114, 115, 116, 117, 118, 119] [(79, 33), (79, 34), (79, 36), (79, 37), (79, 38), (79, 39)] M z5.2 := v_frt (by simp) (by simp) fM (fr_X12_fails hz5)
    exact v_frT fz5 (fw_X12_clause_L277 h)
  · obtain ⟨hb, h⟩ := v_ckS h
    obtain ⟨M1, eM1, h⟩ := v_ltM h
    have fM1 : v_fr [108, 109, 113, 114, 115, 116, 117, 118, 119] [(79, 33), (79, 34), (79, 36), (79, 37), (79, 38), (79, 39)] M M1 := by rw [eM1]; exact v_frw (by simp) fM
    obtain ⟨z2, hz2, h⟩ := v_bdS h
    have fz2 : v_fr [108, 109, 113, 114, 115, 116, 117, 118, 119] [(79, 33), (79, 34), (79, 36), (79, 37), (79, 38), (79, 39)] M z2.2 := v_frt (by simp) (by simp) fM1 (fr_X12_thingOf hz2)
    obtain ⟨z3, hz3, h⟩ := v_bdS h
    have fz3 : v_fr [108, 109, 113, 114, 115, 116, 117, 118, 119] [(79, 33), (79, 34), (79, 36), (79, 37), (79, 38), (79, 39)] M z3.2 := v_frt (by simp) (by simp) fz2 (fr_J0_length_8abf5 hz3)
    obtain ⟨M4, eM4, h⟩ := v_ltM h
    have fM4 : v_fr [108, 109, 113, 114, 115, 116, 117, 118, 119] [(79, 33), (79, 34), (79, 36), (79, 37), (79, 38), (79, 39)] M M4 := by rw [eM4]; exact v_fro (by simp) fz3
    exact v_frT fM4 (fw_X12_clause_L277 h)
theorem fv_X12_clause_L207 {N : Nat} {out : Int32 × v_M} (n : Nat) : ∀ (x4 : Int32) (x5 : Int32) (M : v_M), f_X12_clause_L207 N n x4 x5 M = some out → v_fr [108, 109, 113, 114, 115, 116, 117, 118, 119] [(79, 33), (79, 34), (79, 36), (79, 37), (79, 38), (79, 39)] M out.2 := by
  induction n with
  | zero => intro x4 x5 M h; rw [f_X12_clause_L207] at h; cases h
  | succ n ih =>
    intro x4 x5 M h
    have fM : v_fr [108, 109, 113, 114, 115, 116, 117, 118, 119] [(79, 33), (79, 34), (79, 36), (79, 37), (79, 38), (79, 39)] M M := v_frR
    rw [f_X12_clause_L207] at h
    rcases v_iteS h with ⟨c, h⟩ | ⟨c, h⟩
    · exact v_frT fM (fw_X12_clause_L231 h)
    · obtain ⟨z1, hz1, h⟩ := v_bdS h
      have fz1 : v_fr [108, 109, 113, 114, 115, 116, 117, 118, 119] [(79, 33), (79, 34), (79, 36), (79, 37), (79, 38), (79, 39)] M z1.2 := v_frt (by simp) (by simp) fM (fr_X12_thingOf hz1)
      obtain ⟨z2, hz2, h⟩ := v_bdS h
      have fz2 : v_fr [108, 109, 113, 114, 115, 116, 117, 118, 119] [(79, 33), (79, 34), (79, 36), (79, 37), (79, 38), (79, 39)] M z2.2 := v_frt (by simp) (by simp) fz1 (fr_X12_stands hz2)
      rcases v_iteS h with ⟨c, h⟩ | ⟨c, h⟩
      · exact v_frT fz2 (ih _ _ _ h)
      · exact v_frT fz2 (fw_X12_clause_L231 h)
theorem fw_X12_clause_L207 {N n : Nat} {x4 : Int32} {x5 : Int32} {M : v_M} {out : Int32 × v_M} (h : f_X12_clause_L207 N n x4 x5 M = some out) : v_fr [108, 109, 113, 114, 115, 116, 117, 118, 119] [(79, 33), (79, 34), (79, 36), (79, 37), (79, 38), (79, 39)] M out.2 := fv_X12_clause_L207 n x4 x5 M h
theorem fw_X12_clause_L183 {N : Nat} {x4 : Int32} {t0 : Int32} {t1 : Int32} {M : v_M} {out : Int32 × v_M} (h : f_X12_clause_L183 N x4 t0 t1 M = some out) : v_fr [108, 109, 113, 114, 115, 116, 117, 118, 119] [(79, 33), (79, 34), (79, 36), (79, 37), (79, 38), (79, 39)] M out.2 := by
  have fM : v_fr [108, 109, 113, 114, 115, 116, 117, 118, 119] [(79, 33), (79, 34), (79, 36), (79, 37), (79, 38), (79, 39)] M M := v_frR
  unfold f_X12_clause_L183 at h
  obtain ⟨hb, h⟩ := v_ckS h
  obtain ⟨M1, eM1, h⟩ := v_ltM h
  have fM1 : v_fr [108, 109, 113, 114, 115, 116, 117, 118, 119] [(79, 33), (79, 34), (79, 36), (79, 37), (79, 38), (79, 39)] M M1 := by rw [eM1]; exact v_frw (by simp) fM
  exact v_frT fM1 (fw_X12_clause_L277 h)
theorem fw_X12_clause_L155 {N : Nat} {x4 : Int32} {M : v_M} {out : Int32 × v_M} (h : f_X12_clause_L155 N x4 M = some out) : v_fr [108, 109, 113, 114, 115, 116, 117, 118, 119] [(79, 33), (79, 34), (79, 36), (79, 37), (79, 38), (79, 39)] M out.2 := by
  have fM : v_fr [108, 109, 113, 114, 115, 116, 117, 118, 119] [(79, 33), (79, 34), (79, 36), (79, 37), (79, 38), (79, 39)] M M := v_frR
  unfold f_X12_clause_L155 at h
  obtain ⟨z1, hz1, h⟩ := v_bdS h
  have fz1 : v_fr [108, 109, 113, 114, 115, 116, 117, 118, 119] [(79, 33), (79, 34), (79, 36), (79, 37), (79, 38), (79, 39)] M z1.2 := v_frt (by simp) (by simp) fM (fr_X12_blanks hz1)
  rcases v_iteS h with ⟨c, h⟩ | ⟨c, h⟩
  · obtain ⟨z2, hz2, h⟩ := v_bdS h
    have fz2 : v_fr [108, 109, 113, 114, 115, 116, 117, 118, 119] [(79, 33), (79, 34), (79, 36), (79, 37), (79, 38), (79, 39)] M z2.2 := v_frt (by simp) (by simp) fz1 (fr_X12_digits hz2)
    exact v_frT fz2 (fw_X12_clause_L183 h)
  · exact v_frT fz1 (fw_X12_clause_L183 h)
theorem fw_X12_clause_L33 {N : Nat} {x1 : Int32} {x2 : Int32} {x3 : Int32} {M : v_M} {out : Int32 × v_M} (h : f_X12_clause_L33 N x1 x2 x3 M = some out) : v_fr [108, 109, 113, 114, 115, 116, 117, 118, 119] [(79, 33), (79, 34), (79, 36), (79, 37), (79, 38), (79, 39)] M out.2 := by
  have fM : v_fr [108, 109, 113, 114, 115, 116, 117, 118, 119] [(79, 33), (79, 34), (79, 36), (79, 37), (79, 38), (79, 39)] M M := v_frR
  unfold f_X12_clause_L33 at h
  rcases v_iteS h with ⟨c, h⟩ | ⟨c, h⟩
  · obtain ⟨z15, hz15, h⟩ := v_bdS h
    have fz15 : v_fr [108, 109, 113, 114, 115, 116, 117, 118, 119] [(79, 33), (79, 34), (79, 36), (79, 37), (79, 38), (79, 39)] M z15.2 := v_frt (by simp) (by simp) fM (fr_X12_fails hz15)
    have h := Option.some.inj h
    subst h
    exact fz15
  · rcases v_iteS h with ⟨c, h⟩ | ⟨c, h⟩
    · obtain ⟨z14, hz14, h⟩ := v_bdS h
      have fz14 : v_fr [108, 109, 113, 114, 115, 116, 117, 118, 119] [(79, 33), (79, 34), (79, 36), (79, 37), (79, 38), (79, 39)] M z14.2 := v_frt (by simp) (by simp) fM (fr_X12_fails hz14)
      have h := Option.some.inj h
      subst h
      exact fz14
    · obtain ⟨z1, hz1, h⟩ := v_bdS h
      have fz1 : v_fr [108, 109, 113, 114, 115, 116, 117, 118, 119] [(79, 33), (79, 34), (79, 36), (79, 37), (79, 38), (79, 39)] M z1.2 := v_frt (by simp) (by simp) fM (fr_X12_clauseOf hz1)
      obtain ⟨z2, hz2, h⟩ := v_bdS h
      have fz2 : v_fr [108, 109, 113, 114, 115, 116, 117, 118, 119] [(79, 33), (79, 34), (79, 36), (79, 37), (79, 38), (79, 39)] M z2.2 := v_frt (by simp) (by simp) fz1 (fr_J0_length_8abf5 hz2)
      obtain ⟨M3, eM3, h⟩ := v_ltM h
      have fM3 : v_fr [108, 109, 113, 114, 115, 116, 117, 118, 119] [(79, 33), (79, 34), (79, 36), (79, 37), (79, 38), (79, 39)] M M3 := by rw [eM3]; exact v_fro (by simp) fz2
      obtain ⟨y4, ey4, h⟩ := v_ltM h
      obtain ⟨hb, h⟩ := v_ckS h
      obtain ⟨M5, eM5, h⟩ := v_ltM h
      have fM5 : v_fr [108, 109, 113, 114, 115, 116, 117, 118, 119] [(79, 33), (79, 34), (79, 36), (79, 37), (79, 38), (79, 39)] M M5 := by rw [eM5]; exact v_frw (by simp) fM3
      obtain ⟨hb, h⟩ := v_ckS h
      obtain ⟨M6, eM6, h⟩ := v_ltM h
      have fM6 : v_fr [108, 109, 113, 114, 115, 116, 117, 118, 119] [(79, 33), (79, 34), (79, 36), (79, 37), (79, 38), (79, 39)] M M6 := by rw [eM6]; exact v_frw (by simp) fM5
      obtain ⟨z7, hz7, h⟩ := v_bdS h
      have fz7 : v_fr [108, 109, 113, 114, 115, 116, 117, 118, 119] [(79, 33), (79, 34), (79, 36), (79, 37), (79, 38), (79, 39)] M z7.2 := v_frt (by simp) (by simp) fM6 (fr_X12_blanks hz7)
      rcases v_iteS h with ⟨c, h⟩ | ⟨c, h⟩
      · obtain ⟨z9, hz9, h⟩ := v_bdS h
        have fz9 : v_fr [108, 109, 113, 114, 115, 116, 117, 118, 119] [(79, 33), (79, 34), (79, 36), (79, 37), (79, 38), (79, 39)] M z9.2 := v_frt (by simp) (by simp) fz7 (fr_X12_digits hz9)
        obtain ⟨hb, h⟩ := v_ckS h
        obtain ⟨M10, eM10, h⟩ := v_ltM h
        have fM10 : v_fr [108, 109, 113, 114, 115, 116, 117, 118, 119] [(79, 33), (79, 34), (79, 36), (79, 37), (79, 38), (79, 39)] M M10 := by rw [eM10]; exact v_frw (by simp) fz9
        obtain ⟨z11, hz11, h⟩ := v_bdS h
        have fz11 : v_fr [108, 109, 113, 114, 115, 116, 117, 118, 119] [(79, 33), (79, 34), (79, 36), (79, 37), (79, 38), (79, 39)] M z11.2 := v_frt (by simp) (by simp) fM10 (fr_X12_blanks hz11)
        rcases v_iteS h with ⟨c, h⟩ | ⟨c, h⟩
        · obtain ⟨z12, hz12, h⟩ := v_bdS h
          have fz12 : v_fr [108, 109, 113, 114, 115, 116, 117, 118, 119] [(79, 33), (79, 34), (79, 36), (79, 37), (79, 38), (79, 39)] M z12.2 := v_frt (by simp) (by simp) fz11 (fr_X12_takes_ hz12)
          rcases v_iteS h with ⟨c, h⟩ | ⟨c, h⟩
          · obtain ⟨z13, hz13, h⟩ := v_bdS h
            have fz13 : v_fr [108, 109, 113, 114, 115, 116, 117, 118, 119] [(79, 33), (79, 34), (79, 36), (79, 37), (79, 38), (79, 39)] M z13.2 := v_frt (by simp) (by simp) fz12 (fr_X12_fails hz13)
            exact v_frT fz13 (fw_X12_clause_L155 h)
          · exact v_frT fz12 (fw_X12_clause_L155 h)
        · exact v_frT fz11 (fw_X12_clause_L155 h)
      · rcases v_iteS h with ⟨c, h⟩ | ⟨c, h⟩
        · obtain ⟨z8, hz8, h⟩ := v_bdS h
          have fz8 : v_fr [108, 109, 113, 114, 115, 116, 117, 118, 119] [(79, 33), (79, 34), (79, 36), (79, 37), (79, 38), (79, 39)] M z8.2 := v_frt (by simp) (by simp) fz7 (fr_X12_sum hz8)
          exact v_frT fz8 (fw_X12_clause_L277 h)
        · rcases v_iteS h with ⟨c, h⟩ | ⟨c, h⟩
          · exact v_frT fz7 (fw_X12_clause_L207 h)
          · exact v_frT fz7 (fw_X12_clause_L277 h)
theorem fv_X12_clause_L11 {N : Nat} {out : Int32 × v_M} (n : Nat) : ∀ (x1 : Int32) (x2 : Int32) (x3 : Int32) (M : v_M), f_X12_clause_L11 N n x1 x2 x3 M = some out → v_fr [108, 109, 113, 114, 115, 116, 117, 118, 119] [(79, 33), (79, 34), (79, 36), (79, 37), (79, 38), (79, 39)] M out.2 := by
  induction n with
  | zero => intro x1 x2 x3 M h; rw [f_X12_clause_L11] at h; cases h
  | succ n ih =>
    intro x1 x2 x3 M h
    have fM : v_fr [108, 109, 113, 114, 115, 116, 117, 118, 119] [(79, 33), (79, 34), (79, 36), (79, 37), (79, 38), (79, 39)] M M := v_frR
    rw [f_X12_clause_L11] at h
    rcases v_iteS h with ⟨c, h⟩ | ⟨c, h⟩
    · exact v_frT fM (fw_X12_clause_L33 h)
    · obtain ⟨z1, hz1, h⟩ := v_bdS h
      have fz1 : v_fr [108, 109, 113, 114, 115, 116, 117, 118, 119] [(79, 33), (79, 34), (79, 36), (79, 37), (79, 38), (79, 39)] M z1.2 := v_frt (by simp) (by simp) fM (fr_X12_clauseOf hz1)
      obtain ⟨z2, hz2, h⟩ := v_bdS h
      have fz2 : v_fr [108, 109, 113, 114, 115, 116, 117, 118, 119] [(79, 33), (79, 34), (79, 36), (79, 37), (79, 38), (79, 39)] M z2.2 := v_frt (by simp) (by simp) fz1 (fr_X12_stands hz2)
      rcases v_iteS h with ⟨c, h⟩ | ⟨c, h⟩
      · exact v_frT fz2 (ih _ _ _ _ h)
      · exact v_frT fz2 (fw_X12_clause_L33 h)
theorem fw_X12_clause_L11 {N n : Nat} {x1 : Int32} {x2 : Int32} {x3 : Int32} {M : v_M} {out : Int32 × v_M} (h : f_X12_clause_L11 N n x1 x2 x3 M = some out) : v_fr [108, 109, 113, 114, 115, 116, 117, 118, 119] [(79, 33), (79, 34), (79, 36), (79, 37), (79, 38), (79, 39)] M out.2 := fv_X12_clause_L11 n x1 x2 x3 M h
theorem fr_X12_clause {N : Nat} {x1 : Int32} {M : v_M} {out : Int32 × v_M} (h : f_X12_clause N x1 M = some out) : v_fr [108, 109, 113, 114, 115, 116, 117, 118, 119] [(79, 33), (79, 34), (79, 36), (79, 37), (79, 38), (79, 39)] M out.2 := by
  have fM : v_fr [108, 109, 113, 114, 115, 116, 117, 118, 119] [(79, 33), (79, 34), (79, 36), (79, 37), (79, 38), (79, 39)] M M := v_frR
  unfold f_X12_clause at h
  obtain ⟨z1, hz1, h⟩ := v_bdS h
  have fz1 : v_fr [108, 109, 113, 114, 115, 116, 117, 118, 119] [(79, 33), (79, 34), (79, 36), (79, 37), (79, 38), (79, 39)] M z1.2 := v_frt (by simp) (by simp) fM (fr_X12_blanks hz1)
  obtain ⟨y2, ey2, h⟩ := v_ltM h
  exact v_frT fz1 (fw_X12_clause_L11 h)
theorem fw_X12_order_L145 {N : Nat} {x1 : Int32} {x2 : Int32} {x3 : Int32} {t0 : Int32} {M : v_M} {out : Int32 × v_M} {k69 : Int32 → Int32 → Int32 → Int32 → v_M → Option (Int32 × v_M)} (hk69 : ∀ (x1 : Int32) (x2 : Int32) (x3 : Int32) (x4 : Int32) (M : v_M), k69 x1 x2 x3 x4 M = some out → v_fr [108, 109, 110, 111, 112, 113, 114, 115, 116, 117, 118, 119] [(79, 32), (79, 33), (79, 34), (79, 35), (79, 36), (79, 37), (79, 38), (79, 39)] M out.2) (h : f_X12_order_L145 N k69 x1 x2 x3 t0 M = some out) : v_fr [108, 109, 110, 111, 112, 113, 114, 115, 116, 117, 118, 119] [(79, 32), (79, 33), (79, 34), (79, 35), (79, 36), (79, 37), (79, 38), (79, 39)] M out.2 := by
  have fM : v_fr [108, 109, 110, 111, 112, 113, 114, 115, 116, 117, 118, 119] [(79, 32), (79, 33), (79, 34), (79, 35), (79, 36), (79, 37), (79, 38), (79, 39)] M M := v_frR
  unfold f_X12_order_L145 at h
  obtain ⟨M1, eM1, h⟩ := v_ltM h
  have fM1 : v_fr [108, 109, 110, 111, 112, 113, 114, 115, 116, 117, 118, 119] [(79, 32), (79, 33), (79, 34), (79, 35), (79, 36), (79, 37), (79, 38), (79, 39)] M M1 := by rw [eM1]; exact v_fro (by simp) fM
  exact v_frT fM1 (hk69 _ _ _ _ _ h)
theorem fw_X12_order_L144 {N : Nat} {x1 : Int32} {x2 : Int32} {x3 : Int32} {M : v_M} {out : Int32 × v_M} {k69 : Int32 → Int32 → Int32 → Int32 → v_M → Option (Int32 × v_M)} (hk69 : ∀ (x1 : Int32) (x2 : Int32) (x3 : Int32) (x4 : Int32) (M : v_M), k69 x1 x2 x3 x4 M = some out → v_fr [108, 109, 110, 111, 112, 113, 114, 115, 116, 117, 118, 119] [(79, 32), (79, 33), (79, 34), (79, 35), (79, 36), (79, 37), (79, 38), (79, 39)] M out.2) (h : f_X12_order_L144 N k69 x1 x2 x3 M = some out) : v_fr [108, 109, 110, 111, 112, 113, 114, 115, 116, 117, 118, 119] [(79, 32), (79, 33), (79, 34), (79, 35), (79, 36), (79, 37), (79, 38), (79, 39)] M out.2 := by
  have fM : v_fr [108, 109, 110, 111, 112, 113, 114, 115, 116, 117, 118, 119] [(79, 32), (79, 33), (79, 34), (79, 35), (79, 36), (79, 37), (79, 38), (79, 39)] M M := v_frR
  unfold f_X12_order_L144 at h
  exact v_frT fM (fw_X12_order_L145 hk69 h)
theorem fw_X12_order_L122 {N : Nat} {x1 : Int32} {x2 : Int32} {x3 : Int32} {M : v_M} {out : Int32 × v_M} {k69 : Int32 → Int32 → Int32 → Int32 → v_M → Option (Int32 × v_M)} (hk69 : ∀ (x1 : Int32) (x2 : Int32) (x3 : Int32) (x4 : Int32) (M : v_M), k69 x1 x2 x3 x4 M = some out → v_fr [108, 109, 110, 111, 112, 113, 114, 115, 116, 117, 118, 119] [(79, 32), (79, 33), (79, 34), (79, 35), (79, 36), (79, 37), (79, 38), (79, 39)] M out.2) (h : f_X12_order_L122 N k69 x1 x2 x3 M = some out) : v_fr [108, 109, 110, 111, 112, 113, 114, 115, 116, 117, 118, 119] [(79, 32), (79, 33), (79, 34), (79, 35), (79, 36), (79, 37), (79, 38), (79, 39)] M out.2 := by
  have fM : v_fr [108, 109, 110, 111, 112, 113, 114, 115, 116, 117, 118, 119] [(79, 32), (79, 33), (79, 34), (79, 35), (79, 36), (79, 37), (79, 38), (79, 39)] M M := v_frR
  unfold f_X12_order_L122 at h
  rcases v_iteS h with ⟨c, h⟩ | ⟨c, h⟩
  · rcases v_iteS h with ⟨c, h⟩ | ⟨c, h⟩
    · exact v_frT fM (fw_X12_order_L144 hk69 h)
    · exact v_frT fM (fw_X12_order_L145 hk69 h)
  · exact v_frT fM (fw_X12_order_L144 hk69 h)
theorem fv_X12_order_L69 {N : Nat} {out : Int32 × v_M} (n : Nat) : ∀ (x1 : Int32) (x2 : Int32) (x3 : Int32) (x4 : Int32) (M : v_M), f_X12_order_L69 N n x1 x2 x3 x4 M = some out → v_fr [108, 109, 110, 111, 112, 113, 114, 115, 116, 117, 118, 119] [(79, 32), (79, 33), (79, 34), (79, 35), (79, 36), (79, 37), (79, 38), (79, 39)] M out.2 := by
  induction n with
  | zero => intro x1 x2 x3 x4 M h; rw [f_X12_order_L69] at h; cases h
  | succ n ih =>
    intro x1 x2 x3 x4 M h
    have fM : v_fr [108, 109, 110, 111, 112, 113, 114, 115, 116, 117, 118, 119] [(79, 32), (79, 33), (79, 34), (79, 35), (79, 36), (79, 37), (79, 38), (79, 39)] M M := v_frR
    rw [f_X12_order_L69] at h
    rcases v_iteS h with ⟨c, h⟩ | ⟨c, h⟩
    · obtain ⟨M1, eM1, h⟩ := v_ltM h
      have fM1 : v_fr [108, 109, 110, 111, 112, 113, 114, 115, 116, 117, 118, 119] [(79, 32), (79, 33), (79, 34), (79, 35), (79, 36), (79, 37), (79, 38), (79, 39)] M M1 := by rw [eM1]; exact v_fro (by simp) fM
      rcases v_iteS h with ⟨c, h⟩ | ⟨c, h⟩
      · obtain ⟨hb, h⟩ := v_ckS h
        obtain ⟨M2, eM2, h⟩ := v_ltM h
        have fM2 : v_fr [108, 109, 110, 111, 112, 113, 114, 115, 116, 117, 118, 119] [(79, 32), (79, 33), (79, 34), (79, 35), (79, 36), (79, 37), (79, 38), (79, 39)] M M2 := by rw [eM2]; exact v_frw (by simp) fM1
        obtain ⟨hb, h⟩ := v_ckS h
        obtain ⟨M3, eM3, h⟩ := v_ltM h
        have fM3 : v_fr [108, 109, 110, 111, 112, 113, 114, 115, 116, 117, 118, 119] [(79, 32), (79, 33), (79, 34), (79, 35), (79, 36), (79, 37), (79, 38), (79, 39)] M M3 := by rw [eM3]; exact v_frw (by simp) fM2
        obtain ⟨hb, h⟩ := v_ckS h
        obtain ⟨M4, eM4, h⟩ := v_ltM h
        have fM4 : v_fr [108, 109, 110, 111, 112, 113, 114, 115, 116, 117, 118, 119] [(79, 32), (79, 33), (79, 34), (79, 35), (79, 36), (79, 37), (79, 38), (79, 39)] M M4 := by rw [eM4]; exact v_frw (by simp) fM3
        obtain ⟨M5, eM5, h⟩ := v_ltM h
        have fM5 : v_fr [108, 109, 110, 111, 112, 113, 114, 115, 116, 117, 118, 119] [(79, 32), (79, 33), (79, 34), (79, 35), (79, 36), (79, 37), (79, 38), (79, 39)] M M5 := by rw [eM5]; exact v_fro (by simp) fM4
        have h := Option.some.inj h
        subst h
        exact fM5
      · have h := Option.some.inj h
        subst h
        exact fM1
    · obtain ⟨z6, hz6, h⟩ := v_bdS h
      have fz6 : v_fr [108, 109, 110, 111, 112, 113, 114, 115, 116, 117, 118, 119] [(79, 32), (79, 33), (79, 34), (79, 35), (79, 36), (79, 37), (79, 38), (79, 39)] M z6.2 := v_frt (by simp) (by simp) fM (fr_X12_clause hz6)
      obtain ⟨z7, hz7, h⟩ := v_bdS h
      have fz7 : v_fr [108, 109, 110, 111, 112, 113, 114, 115, 116, 117, 118, 119] [(79, 32), (79, 33), (79, 34), (79, 35), (79, 36), (79, 37), (79, 38), (79, 39)] M z7.2 := v_frt (by simp) (by simp) fz6 (fr_X12_blanks hz7)
      rcases v_iteS h with ⟨c, h⟩ | ⟨c, h⟩
      · rcases v_iteS h with ⟨c, h⟩ | ⟨c, h⟩
        · exact v_frT fz7 (fw_X12_order_L122 ih h)
        · obtain ⟨z8, hz8, h⟩ := v_bdS h
          have fz8 : v_fr [108, 109, 110, 111, 112, 113, 114, 115, 116, 117, 118, 119] [(79, 32), (79, 33), (79, 34), (79, 35), (79, 36), (79, 37), (79, 38), (79, 39)] M z8.2 := v_frt (by simp) (by simp) fz7 (fr_X12_sign hz8)
          rcases v_iteS h with ⟨c, h⟩ | ⟨c, h⟩
          · exact v_frT fz8 (fw_X12_order_L122 ih h)
          · obtain ⟨z9, hz9, h⟩ := v_bdS h
            have fz9 : v_fr [108, 109, 110, 111, 112, 113, 114, 115, 116, 117, 118, 119] [(79, 32), (79, 33), (79, 34), (79, 35), (79, 36), (79, 37), (79, 38), (79, 39)] M z9.2 := v_frt (by simp) (by simp) fz8 (fr_X12_fails hz9)
            exact v_frT fz9 (fw_X12_order_L122 ih h)
      · exact v_frT fz7 (fw_X12_order_L122 ih h)
theorem fw_X12_order_L69 {N n : Nat} {x1 : Int32} {x2 : Int32} {x3 : Int32} {x4 : Int32} {M : v_M} {out : Int32 × v_M} (h : f_X12_order_L69 N n x1 x2 x3 x4 M = some out) : v_fr [108, 109, 110, 111, 112, 113, 114, 115, 116, 117, 118, 119] [(79, 32), (79, 33), (79, 34), (79, 35), (79, 36), (79, 37), (79, 38), (79, 39)] M out.2 := fv_X12_order_L69 n x1 x2 x3 x4 M h
theorem fr_X12_order {N : Nat} {x1 : Int32} {x2 : Int32} {M : v_M} {out : Int32 × v_M} (h : f_X12_order N x1 x2 M = some out) : v_fr [108, 109, 110, 111, 112, 113, 114, 115, 116, 117, 118, 119] [(79, 32), (79, 33), (79, 34), (79, 35), (79, 36), (79, 37), (79, 38), (79, 39)] M out.2 := by
  have fM : v_fr [108, 109, 110, 111, 112, 113, 114, 115, 116, 117, 118, 119] [(79, 32), (79, 33), (79, 34), (79, 35), (79, 36), (79, 37), (79, 38), (79, 39)] M M := v_frR
  unfold f_X12_order at h
  rcases v_iteS h with ⟨c, h⟩ | ⟨c, h⟩
  · have h := Option.some.inj h
    subst h
    exact fM
  · obtain ⟨z1, hz1, h⟩ := v_bdS h
    have fz1 : v_fr [108, 109, 110, 111, 112, 113, 114, 115, 116, 117, 118, 119] [(79, 32), (79, 33), (79, 34), (79, 35), (79, 36), (79, 37), (79, 38), (79, 39)] M z1.2 := v_frt (by simp) (by simp) fM (fr_X12_in hz1)
    rcases v_iteS h with ⟨c, h⟩ | ⟨c, h⟩
    · have h := Option.some.inj h
      subst h
      exact fz1
    · obtain ⟨z2, hz2, h⟩ := v_bdS h
      have fz2 : v_fr [108, 109, 110, 111, 112, 113, 114, 115, 116, 117, 118, 119] [(79, 32), (79, 33), (79, 34), (79, 35), (79, 36), (79, 37), (79, 38), (79, 39)] M z2.2 := v_frt (by simp) (by simp) fz1 (fr_X12_in hz2)
      rcases v_iteS h with ⟨c, h⟩ | ⟨c, h⟩
      · have h := Option.some.inj h
        subst h
        exact fz2
      · obtain ⟨M3, eM3, h⟩ := v_ltM h
        have fM3 : v_fr [108, 109, 110, 111, 112, 113, 114, 115, 116, 117, 118, 119] [(79, 32), (79, 33), (79, 34), (79, 35), (79, 36), (79, 37), (79, 38), (79, 39)] M M3 := by rw [eM3]; exact v_fro (by simp) fz2
        obtain ⟨M4, eM4, h⟩ := v_ltM h
        have fM4 : v_fr [108, 109, 110, 111, 112, 113, 114, 115, 116, 117, 118, 119] [(79, 32), (79, 33), (79, 34), (79, 35), (79, 36), (79, 37), (79, 38), (79, 39)] M M4 := by rw [eM4]; exact v_fro (by simp) fM3
        obtain ⟨M5, eM5, h⟩ := v_ltM h
        have fM5 : v_fr [108, 109, 110, 111, 112, 113, 114, 115, 116, 117, 118, 119] [(79, 32), (79, 33), (79, 34), (79, 35), (79, 36), (79, 37), (79, 38), (79, 39)] M M5 := by rw [eM5]; exact v_fro (by simp) fM4
        obtain ⟨M6, eM6, h⟩ := v_ltM h
        have fM6 : v_fr [108, 109, 110, 111, 112, 113, 114, 115, 116, 117, 118, 119] [(79, 32), (79, 33), (79, 34), (79, 35), (79, 36), (79, 37), (79, 38), (79, 39)] M M6 := by rw [eM6]; exact v_fro (by simp) fM5
        obtain ⟨M7, eM7, h⟩ := v_ltM h
        have fM7 : v_fr [108, 109, 110, 111, 112, 113, 114, 115, 116, 117, 118, 119] [(79, 32), (79, 33), (79, 34), (79, 35), (79, 36), (79, 37), (79, 38), (79, 39)] M M7 := by rw [eM7]; exact v_fro (by simp) fM6
        exact v_frT fM7 (fw_X12_order_L69 h)
theorem fw_X12_takes___L53 {N : Nat} {x1 : Int32} {x2 : Int32} {x3 : Int32} {t0 : Int32} {M : v_M} {out : Int32 × v_M} (h : f_X12_takes___L53 N x1 x2 x3 t0 M = some out) : v_fr [93] [] M out.2 := by
  have fM : v_fr [93] [] M M := v_frR
  unfold f_X12_takes___L53 at h
  rcases v_iteS h with ⟨c, h⟩ | ⟨c, h⟩
  · obtain ⟨hb, h⟩ := v_ckS h
    have h := Option.some.inj h
    subst h
    exact fM
  · obtain ⟨hb, h⟩ := v_ckS h
    obtain ⟨hb, h⟩ := v_ckS h
    obtain ⟨M1, eM1, h⟩ := v_ltM h
    have fM1 : v_fr [93] [] M M1 := by rw [eM1]; exact v_frw (by simp) fM
    obtain ⟨hb, h⟩ := v_ckS h
    have h := Option.some.inj h
    subst h
    exact fM1
theorem fr_X12_takes__ {N : Nat} {x1 : Int32} {x2 : Int32} {x3 : Int32} {M : v_M} {out : Int32 × v_M} (h : f_X12_takes__ N x1 x2 x3 M = some out) : v_fr [93] [] M out.2 := by
  have fM : v_fr [93] [] M M := v_frR
  unfold f_X12_takes__ at h
  obtain ⟨z1, hz1, h⟩ := v_bdS h
  have fz1 : v_fr [93] [] M z1.2 := v_frt (by simp) (by simp) fM (fr_X12_isMachine hz1)
  rcases v_iteS h with ⟨c, h⟩ | ⟨c, h⟩
  · obtain ⟨hb, h⟩ := v_ckS h
    have h := Option.some.inj h
    subst h
    exact fz1
  · obtain ⟨z2, hz2, h⟩ := v_bdS h
    have fz2 : v_fr [93] [] M z2.2 := v_frt (by simp) (by simp) fz1 (fr_X12_in hz2)
    rcases v_iteS h with ⟨c, h⟩ | ⟨c, h⟩
    · obtain ⟨hb, h⟩ := v_ckS h
      have h := Option.some.inj h
      subst h
      exact fz2
    · obtain ⟨hb, h⟩ := v_ckS h
      rcases v_iteS h with ⟨c, h⟩ | ⟨c, h⟩
      · obtain ⟨hb, h⟩ := v_ckS h
        rcases v_iteS h with ⟨c, h⟩ | ⟨c, h⟩
        · exact v_frT fz2 (fw_X12_takes___L53 h)
        · exact v_frT fz2 (fw_X12_takes___L53 h)
      · obtain ⟨hb, h⟩ := v_ckS h
        have h := Option.some.inj h
        subst h
        exact fz2
theorem fr_X12_truth {N : Nat} {x0 : Int32} {M : v_M} {out : Int64 × v_M} (h : f_X12_truth N x0 M = some out) : v_fr [] [] M out.2 := by
  have fM : v_fr [] [] M M := v_frR
  unfold f_X12_truth at h
  rcases v_iteS h with ⟨c, h⟩ | ⟨c, h⟩
  · have h := Option.some.inj h
    subst h
    exact fM
  · have h := Option.some.inj h
    subst h
    exact fM
theorem fr_X12_both {N : Nat} {x0 : Int32} {l1 : Int64} {l3 : Int64} {M : v_M} {out : Int64 × v_M} (h : f_X12_both N x0 l1 l3 M = some out) : v_fr [] [] M out.2 := by
  have fM : v_fr [] [] M M := v_frR
  unfold f_X12_both at h
  by_cases c2 : x0 = (2 : Int32)
  · rw [if_pos c2] at h
    have h := Option.some.inj h
    subst h
    exact fM
  · rw [if_neg c2] at h
    by_cases c3 : x0 = (3 : Int32)
    · rw [if_pos c3] at h
      have h := Option.some.inj h
      subst h
      exact fM
    · rw [if_neg c3] at h
      by_cases c4 : x0 = (4 : Int32)
      · rw [if_pos c4] at h
        rcases v_iteS h with ⟨c, h⟩ | ⟨c, h⟩
        · obtain ⟨z1, hz1, h⟩ := v_bdS h
          have fz1 : v_fr [] [] M z1.2 := v_frt (by simp) (by simp) fM (fr_X12_truth hz1)
          have h := Option.some.inj h
          subst h
          exact fz1
        · obtain ⟨z2, hz2, h⟩ := v_bdS h
          have fz2 : v_fr [] [] M z2.2 := v_frt (by simp) (by simp) fM (fr_X12_truth hz2)
          have h := Option.some.inj h
          subst h
          exact fz2
      · rw [if_neg c4] at h
        by_cases c5 : x0 = (5 : Int32)
        · rw [if_pos c5] at h
          rcases v_iteS h with ⟨c, h⟩ | ⟨c, h⟩
          · obtain ⟨z3, hz3, h⟩ := v_bdS h
            have fz3 : v_fr [] [] M z3.2 := v_frt (by simp) (by simp) fM (fr_X12_truth hz3)
            have h := Option.some.inj h
            subst h
            exact fz3
          · obtain ⟨z4, hz4, h⟩ := v_bdS h
            have fz4 : v_fr [] [] M z4.2 := v_frt (by simp) (by simp) fM (fr_X12_truth hz4)
            have h := Option.some.inj h
            subst h
            exact fz4
        · rw [if_neg c5] at h
          by_cases c6 : x0 = (6 : Int32)
          · rw [if_pos c6] at h
            rcases v_iteS h with ⟨c, h⟩ | ⟨c, h⟩
            · obtain ⟨z6, hz6, h⟩ := v_bdS h
              have fz6 : v_fr [] [] M z6.2 := v_frt (by simp) (by simp) fM (fr_X12_truth hz6)
              have h := Option.some.inj h
              subst h
              exact fz6
            · obtain ⟨z5, hz5, h⟩ := v_bdS h
              have fz5 : v_fr [] [] M z5.2 := v_frt (by simp) (by simp) fM (fr_X12_truth hz5)
              have h := Option.some.inj h
              subst h
              exact fz5
          · rw [if_neg c6] at h
            by_cases c7 : x0 = (7 : Int32)
            · rw [if_pos c7] at h
              rcases v_iteS h with ⟨c, h⟩ | ⟨c, h⟩
              · obtain ⟨z7, hz7, h⟩ := v_bdS h
                have fz7 : v_fr [] [] M z7.2 := v_frt (by simp) (by simp) fM (fr_X12_truth hz7)
                have h := Option.some.inj h
                subst h
                exact fz7
              · obtain ⟨z8, hz8, h⟩ := v_bdS h
                have fz8 : v_fr [] [] M z8.2 := v_frt (by simp) (by simp) fM (fr_X12_truth hz8)
                have h := Option.some.inj h
                subst h
                exact fz8
            · rw [if_neg c7] at h
              by_cases c8 : x0 = (8 : Int32)
              · rw [if_pos c8] at h
                rcases v_iteS h with ⟨c, h⟩ | ⟨c, h⟩
                · obtain ⟨z9, hz9, h⟩ := v_bdS h
                  have fz9 : v_fr [] [] M z9.2 := v_frt (by simp) (by simp) fM (fr_X12_truth hz9)
                  have h := Option.some.inj h
                  subst h
                  exact fz9
                · obtain ⟨z10, hz10, h⟩ := v_bdS h
                  have fz10 : v_fr [] [] M z10.2 := v_frt (by simp) (by simp) fM (fr_X12_truth hz10)
                  have h := Option.some.inj h
                  subst h
                  exact fz10
              · rw [if_neg c8] at h
                by_cases c10 : x0 = (10 : Int32)
                · rw [if_pos c10] at h
                  have h := Option.some.inj h
                  subst h
                  exact fM
                · rw [if_neg c10] at h
                  by_cases c9 : x0 = (9 : Int32)
                  · have h := Option.some.inj h
                    subst h
                    exact fM
                  · have h := Option.some.inj h
                    subst h
                    exact fM
theorem fw_X12_answer_L147 {N : Nat} {x1 : Int32} {x3 : Int32} {x4 : Int32} {x5 : Int32} {M : v_M} {out : Int64 × v_M} {k6 : Int32 → Int32 → Int32 → Int32 → v_M → Option (Int64 × v_M)} (hk6 : ∀ (x1 : Int32) (x3 : Int32) (x4 : Int32) (x5 : Int32) (M : v_M), k6 x1 x3 x4 x5 M = some out → v_fr [121] [] M out.2) (h : f_X12_answer_L147 N k6 x1 x3 x4 x5 M = some out) : v_fr [121] [] M out.2 := by
  have fM : v_fr [121] [] M M := v_frR
  unfold f_X12_answer_L147 at h
  exact v_frT fM (hk6 _ _ _ _ _ h)
theorem fw_X12_answer_L77 {N : Nat} {x1 : Int32} {x3 : Int32} {x4 : Int32} {x5 : Int32} {l0 : Int64} {t1 : Int32} {M : v_M} {out : Int64 × v_M} {k6 : Int32 → Int32 → Int32 → Int32 → v_M → Option (Int64 × v_M)} (hk6 : ∀ (x1 : Int32) (x3 : Int32) (x4 : Int32) (x5 : Int32) (M : v_M), k6 x1 x3 x4 x5 M = some out → v_fr [121] [] M out.2) (h : f_X12_answer_L77 N k6 x1 x3 x4 x5 l0 t1 M = some out) : v_fr [121] [] M out.2 := by
  have fM : v_fr [121] [] M M := v_frR
  unfold f_X12_answer_L77 at h
  obtain ⟨hb, h⟩ := v_ckS h
  obtain ⟨M1, eM1, h⟩ := v_ltM h
  have fM1 : v_fr [121] [] M M1 := by rw [eM1]; exact v_frl (by simp) fM
  exact v_frT fM1 (fw_X12_answer_L147 hk6 h)
theorem fw_X12_answer_L53 {N : Nat} {x1 : Int32} {x3 : Int32} {x4 : Int32} {x5 : Int32} {x6 : Int32} {x7 : Int32} {M : v_M} {out : Int64 × v_M} {k6 : Int32 → Int32 → Int32 → Int32 → v_M → Option (Int64 × v_M)} (hk6 : ∀ (x1 : Int32) (x3 : Int32) (x4 : Int32) (x5 : Int32) (M : v_M), k6 x1 x3 x4 x5 M = some out → v_fr [121] [] M out.2) (h : f_X12_answer_L53 N k6 x1 x3 x4 x5 x6 x7 M = some out) : v_fr [121] [] M out.2 := by
  have fM : v_fr [121] [] M M := v_frR
  unfold f_X12_answer_L53 at h
  rcases v_iteS h with ⟨c, h⟩ | ⟨c, h⟩
  · exact v_frT fM (fw_X12_answer_L77 hk6 h)
  · obtain ⟨hb, h⟩ := v_ckS h
    exact v_frT fM (fw_X12_answer_L77 hk6 h)
theorem fv_X12_answer_L6 {N : Nat} {out : Int64 × v_M} (n : Nat) : ∀ (x1 : Int32) (x3 : Int32) (x4 : Int32) (x5 : Int32) (M : v_M), f_X12_answer_L6 N n x1 x3 x4 x5 M = some out → v_fr [121] [] M out.2 := by
  induction n with
  | zero => intro x1 x3 x4 x5 M h; rw [f_X12_answer_L6] at h; cases h
  | succ n ih =>
    intro x1 x3 x4 x5 M h
    have fM : v_fr [121] [] M M := v_frR
    rw [f_X12_answer_L6] at h
    rcases v_iteS h with ⟨c, h⟩ | ⟨c, h⟩
    · obtain ⟨hb, h⟩ := v_ckS h
      have h := Option.some.inj h
      subst h
      exact fM
    · obtain ⟨hb, h⟩ := v_ckS h
      obtain ⟨y1, ey1, h⟩ := v_ltM h
      obtain ⟨hb, h⟩ := v_ckS h
      obtain ⟨y2, ey2, h⟩ := v_ltM h
      rcases v_iteS h with ⟨c, h⟩ | ⟨c, h⟩
      · exact v_frT fM (fw_X12_answer_L53 ih h)
      · rcases v_iteS h with ⟨c, h⟩ | ⟨c, h⟩
        · exact v_frT fM (fw_X12_answer_L53 ih h)
        · rcases v_iteS h with ⟨c, h⟩ | ⟨c, h⟩
          · obtain ⟨hb, h⟩ := v_ckS h
            obtain ⟨hb, h⟩ := v_ckS h
            obtain ⟨M5, eM5, h⟩ := v_ltM h
            have fM5 : v_fr [121] [] M M5 := by rw [eM5]; exact v_frl (by simp) fM
            exact v_frT fM5 (fw_X12_answer_L147 ih h)
          · obtain ⟨hb, h⟩ := v_ckS h
            obtain ⟨hb, h⟩ := v_ckS h
            obtain ⟨z3, hz3, h⟩ := v_bdS h
            have fz3 : v_fr [121] [] M z3.2 := v_frt (by simp) (by simp) fM (fr_X12_both hz3)
            obtain ⟨hb, h⟩ := v_ckS h
            obtain ⟨M4, eM4, h⟩ := v_ltM h
            have fM4 : v_fr [121] [] M M4 := by rw [eM4]; exact v_frl (by simp) fz3
            exact v_frT fM4 (fw_X12_answer_L147 ih h)
theorem fw_X12_answer_L6 {N n : Nat} {x1 : Int32} {x3 : Int32} {x4 : Int32} {x5 : Int32} {M : v_M} {out : Int64 × v_M} (h : f_X12_answer_L6 N n x1 x3 x4 x5 M = some out) : v_fr [121] [] M out.2 := fv_X12_answer_L6 n x1 x3 x4 x5 M h
theorem fr_X12_answer {N : Nat} {x1 : Int32} {x2 : Int32} {x3 : Int32} {M : v_M} {out : Int64 × v_M} (h : f_X12_answer N x1 x2 x3 M = some out) : v_fr [121] [] M out.2 := by
  have fM : v_fr [121] [] M M := v_frR
  unfold f_X12_answer at h
  exact v_frT fM (fw_X12_answer_L6 h)
theorem fw_X12_doneOf_L35 {N : Nat} {x1 : Int32} {x3 : Int32} {t0 : Int32} {t1 : Int32} {M : v_M} {out : Int32 × v_M} {k4 : Int32 → Int32 → Int32 → v_M → Option (Int32 × v_M)} (hk4 : ∀ (x1 : Int32) (x2 : Int32) (x3 : Int32) (M : v_M), k4 x1 x2 x3 M = some out → v_fr [] [] M out.2) (h : f_X12_doneOf_L35 N k4 x1 x3 t0 t1 M = some out) : v_fr [] [] M out.2 := by
  have fM : v_fr [] [] M M := v_frR
  unfold f_X12_doneOf_L35 at h
  obtain ⟨y1, ey1, h⟩ := v_ltM h
  exact v_frT fM (hk4 _ _ _ _ h)
theorem fv_X12_doneOf_L4 {N : Nat} {out : Int32 × v_M} (n : Nat) : ∀ (x1 : Int32) (x2 : Int32) (x3 : Int32) (M : v_M), f_X12_doneOf_L4 N n x1 x2 x3 M = some out → v_fr [] [] M out.2 := by
  induction n with
  | zero => intro x1 x2 x3 M h; rw [f_X12_doneOf_L4] at h; cases h
  | succ n ih =>
    intro x1 x2 x3 M h
    have fM : v_fr [] [] M M := v_frR
    rw [f_X12_doneOf_L4] at h
    rcases v_iteS h with ⟨c, h⟩ | ⟨c, h⟩
    · have h := Option.some.inj h
      subst h
      exact fM
    · obtain ⟨hb, h⟩ := v_ckS h
      rcases v_iteS h with ⟨c, h⟩ | ⟨c, h⟩
      · obtain ⟨hb, h⟩ := v_ckS h
        exact v_frT fM (fw_X12_doneOf_L35 ih h)
      · exact v_frT fM (fw_X12_doneOf_L35 ih h)
theorem fw_X12_doneOf_L4 {N n : Nat} {x1 : Int32} {x2 : Int32} {x3 : Int32} {M : v_M} {out : Int32 × v_M} (h : f_X12_doneOf_L4 N n x1 x2 x3 M = some out) : v_fr [] [] M out.2 := fv_X12_doneOf_L4 n x1 x2 x3 M h
theorem fr_X12_doneOf {N : Nat} {x1 : Int32} {M : v_M} {out : Int32 × v_M} (h : f_X12_doneOf N x1 M = some out) : v_fr [] [] M out.2 := by
  have fM : v_fr [] [] M M := v_frR
  unfold f_X12_doneOf at h
  exact v_frT fM (fw_X12_doneOf_L4 h)
theorem fw_X12_binds__L143 {N : Nat} {l0 : Int64} {M : v_M} {out : Int32 × v_M} (h : f_X12_binds__L143 N l0 M = some out) : v_fr [121] [(79, 55), (79, 56), (79, 57), (79, 58), (79, 59)] M out.2 := by
  have fM : v_fr [121] [(79, 55), (79, 56), (79, 57), (79, 58), (79, 59)] M M := v_frR
  unfold f_X12_binds__L143 at h
  obtain ⟨y1, ey1, h⟩ := v_ltM h
  rcases v_iteS h with ⟨c, h⟩ | ⟨c, h⟩
  · obtain ⟨M2, eM2, h⟩ := v_ltM h
    have fM2 : v_fr [121] [(79, 55), (79, 56), (79, 57), (79, 58), (79, 59)] M M2 := by rw [eM2]; exact v_fro (by simp) fM
    have h := Option.some.inj h
    subst h
    exact fM2
  · obtain ⟨M3, eM3, h⟩ := v_ltM h
    have fM3 : v_fr [121] [(79, 55), (79, 56), (79, 57), (79, 58), (79, 59)] M M3 := by rw [eM3]; exact v_fro (by simp) fM
    have h := Option.some.inj h
    subst h
    exact fM3
theorem fw_X12_binds__L79 {N : Nat} {t0 : Int32} {t1 : Int32} {M : v_M} {out : Int32 × v_M} (h : f_X12_binds__L79 N t0 t1 M = some out) : v_fr [121] [(79, 55), (79, 56), (79, 57), (79, 58), (79, 59)] M out.2 := by
  have fM : v_fr [121] [(79, 55), (79, 56), (79, 57), (79, 58), (79, 59)] M M := v_frR
  unfold f_X12_binds__L79 at h
  obtain ⟨M1, eM1, h⟩ := v_ltM h
  have fM1 : v_fr [121] [(79, 55), (79, 56), (79, 57), (79, 58), (79, 59)] M M1 := by rw [eM1]; exact v_fro (by simp) fM
  have h := Option.some.inj h
  subst h
  exact fM1
theorem fw_X12_binds__L35 {N : Nat} {x1 : Int32} {x2 : Int32} {t0 : Int32} {M : v_M} {out : Int32 × v_M} (h : f_X12_binds__L35 N x1 x2 t0 M = some out) : v_fr [121] [(79, 55), (79, 56), (79, 57), (79, 58), (79, 59)] M out.2 := by
  have fM : v_fr [121] [(79, 55), (79, 56), (79, 57), (79, 58), (79, 59)] M M := v_frR
  unfold f_X12_binds__L35 at h
  obtain ⟨M1, eM1, h⟩ := v_ltM h
  have fM1 : v_fr [121] [(79, 55), (79, 56), (79, 57), (79, 58), (79, 59)] M M1 := by rw [eM1]; exact v_fro (by simp) fM
  obtain ⟨hb, h⟩ := v_ckS h
  obtain ⟨hb, h⟩ := v_ckS h
  rcases v_iteS h with ⟨c, h⟩ | ⟨c, h⟩
  · exact v_frT fM1 (fw_X12_binds__L79 h)
  · exact v_frT fM1 (fw_X12_binds__L79 h)
theorem fr_X12_binds_ {N : Nat} {x1 : Int32} {x2 : Int32} {x3 : Int32} {M : v_M} {out : Int32 × v_M} (h : f_X12_binds_ N x1 x2 x3 M = some out) : v_fr [121] [(79, 55), (79, 56), (79, 57), (79, 58), (79, 59)] M out.2 := by
  have fM : v_fr [121] [(79, 55), (79, 56), (79, 57), (79, 58), (79, 59)] M M := v_frR
  unfold f_X12_binds_ at h
  obtain ⟨hb, h⟩ := v_ckS h
  rcases v_iteS h with ⟨c, h⟩ | ⟨c, h⟩
  · obtain ⟨hb, h⟩ := v_ckS h
    rcases v_iteS h with ⟨c, h⟩ | ⟨c, h⟩
    · exact v_frT fM (fw_X12_binds__L35 h)
    · obtain ⟨hb, h⟩ := v_ckS h
      exact v_frT fM (fw_X12_binds__L35 h)
  · obtain ⟨hb, h⟩ := v_ckS h
    rcases v_iteS h with ⟨c, h⟩ | ⟨c, h⟩
    · obtain ⟨hb, h⟩ := v_ckS h
      obtain ⟨hb, h⟩ := v_ckS h
      obtain ⟨z3, hz3, h⟩ := v_bdS h
      have fz3 : v_fr [121] [(79, 55), (79, 56), (79, 57), (79, 58), (79, 59)] M z3.2 := v_frt (by simp) (by simp) fM (fr_X12_answer hz3)
      obtain ⟨y4, ey4, h⟩ := v_ltM h
      rcases v_iteS h with ⟨c, h⟩ | ⟨c, h⟩
      · rcases v_iteS h with ⟨c, h⟩ | ⟨c, h⟩
        · exact v_frT fz3 (fw_X12_binds__L143 h)
        · exact v_frT fz3 (fw_X12_binds__L143 h)
      · exact v_frT fz3 (fw_X12_binds__L143 h)
    · obtain ⟨hb, h⟩ := v_ckS h
      rcases v_iteS h with ⟨c, h⟩ | ⟨c, h⟩
      · obtain ⟨hb, h⟩ := v_ckS h
        obtain ⟨M2, eM2, h⟩ := v_ltM h
        have fM2 : v_fr [121] [(79, 55), (79, 56), (79, 57), (79, 58), (79, 59)] M M2 := by rw [eM2]; exact v_fro (by simp) fM
        have h := Option.some.inj h
        subst h
        exact fM2
      · obtain ⟨hb, h⟩ := v_ckS h
        obtain ⟨M1, eM1, h⟩ := v_ltM h
        have fM1 : v_fr [121] [(79, 55), (79, 56), (79, 57), (79, 58), (79, 59)] M M1 := by rw [eM1]; exact v_fro (by simp) fM
        have h := Option.some.inj h
        subst h
        exact fM1
theorem fr_X12_stamp {N : Nat} {x1 : Int32} {x2 : Int32} {x3 : Int32} {x4 : Int32} {M : v_M} {out : Int32 × v_M} (h : f_X12_stamp N x1 x2 x3 x4 M = some out) : v_fr [122, 123, 124, 125] [(79, 60)] M out.2 := by
  have fM : v_fr [122, 123, 124, 125] [(79, 60)] M M := v_frR
  unfold f_X12_stamp at h
  rcases v_iteS h with ⟨c, h⟩ | ⟨c, h⟩
  · have h := Option.some.inj h
    subst h
    exact fM
  · obtain ⟨z1, hz1, h⟩ := v_bdS h
    have fz1 : v_fr [122, 123, 124, 125] [(79, 60)] M z1.2 := v_frt (by simp) (by simp) fM (fr_X12_isMachine hz1)
    rcases v_iteS h with ⟨c, h⟩ | ⟨c, h⟩
    · have h := Option.some.inj h
      subst h
      exact fz1
    · obtain ⟨z2, hz2, h⟩ := v_bdS h
      have fz2 : v_fr [122, 123, 124, 125] [(79, 60)] M z2.2 := v_frt (by simp) (by simp) fz1 (fr_X12_in hz2)
      rcases v_iteS h with ⟨c, h⟩ | ⟨c, h⟩
      · have h := Option.some.inj h
        subst h
        exact fz2
      · obtain ⟨z3, hz3, h⟩ := v_bdS h
        have fz3 : v_fr [122, 123, 124, 125] [(79, 60)] M z3.2 := v_frt (by simp) (by simp) fz2 (fr_X12_in hz3)
        rcases v_iteS h with ⟨c, h⟩ | ⟨c, h⟩
        · have h := Option.some.inj h
          subst h
          exact fz3
        · obtain ⟨z4, hz4, h⟩ := v_bdS h
          have fz4 : v_fr [122, 123, 124, 125] [(79, 60)] M z4.2 := v_frt (by simp) (by simp) fz3 (fr_X12_in hz4)
          rcases v_iteS h with ⟨c, h⟩ | ⟨c, h⟩
          · have h := Option.some.inj h
            subst h
            exact fz4
          · obtain ⟨hb, h⟩ := v_ckS h
            obtain ⟨M5, eM5, h⟩ := v_ltM h
            have fM5 : v_fr [122, 123, 124, 125] [(79, 60)] M M5 := by rw [eM5]; exact v_frw (by simp) fz4
            obtain ⟨hb, h⟩ := v_ckS h
            obtain ⟨M6, eM6, h⟩ := v_ltM h
            have fM6 : v_fr [122, 123, 124, 125] [(79, 60)] M M6 := by rw [eM6]; exact v_frw (by simp) fM5
            obtain ⟨hb, h⟩ := v_ckS h
            obtain ⟨M7, eM7, h⟩ := v_ltM h
            have fM7 : v_fr [122, 123, 124, 125] [(79, 60)] M M7 := by rw [eM7]; exact v_frw (by simp) fM6
            obtain ⟨hb, h⟩ := v_ckS h
            obtain ⟨M8, eM8, h⟩ := v_ltM h
            have fM8 : v_fr [122, 123, 124, 125] [(79, 60)] M M8 := by rw [eM8]; exact v_frw (by simp) fM7
            obtain ⟨M9, eM9, h⟩ := v_ltM h
            have fM9 : v_fr [122, 123, 124, 125] [(79, 60)] M M9 := by rw [eM9]; exact v_fro (by simp) fM8
            have h := Option.some.inj h
            subst h
            exact fM9
theorem fr_X12_see {N : Nat} {x1 : Int32} {x2 : Int32} {x3 : Int32} {x4 : Int32} {M : v_M} {out : Int32 × v_M} (h : f_X12_see N x1 x2 x3 x4 M = some out) : v_fr [128, 129, 130, 131] [(79, 61)] M out.2 := by
  have fM : v_fr [128, 129, 130, 131] [(79, 61)] M M := v_frR
  unfold f_X12_see at h
  rcases v_iteS h with ⟨c, h⟩ | ⟨c, h⟩
  · have h := Option.some.inj h
    subst h
    exact fM
  · obtain ⟨z1, hz1, h⟩ := v_bdS h
    have fz1 : v_fr [128, 129, 130, 131] [(79, 61)] M z1.2 := v_frt (by simp) (by simp) fM (fr_X12_isMachine hz1)
    rcases v_iteS h with ⟨c, h⟩ | ⟨c, h⟩
    · have h := Option.some.inj h
      subst h
      exact fz1
    · obtain ⟨z2, hz2, h⟩ := v_bdS h
      have fz2 : v_fr [128, 129, 130, 131] [(79, 61)] M z2.2 := v_frt (by simp) (by simp) fz1 (fr_X12_in hz2)
      rcases v_iteS h with ⟨c, h⟩ | ⟨c, h⟩
      · have h := Option.some.inj h
        subst h
        exact fz2
      · obtain ⟨z3, hz3, h⟩ := v_bdS h
        have fz3 : v_fr [128, 129, 130, 131] [(79, 61)] M z3.2 := v_frt (by simp) (by simp) fz2 (fr_X12_in hz3)
        rcases v_iteS h with ⟨c, h⟩ | ⟨c, h⟩
        · have h := Option.some.inj h
          subst h
          exact fz3
        · obtain ⟨hb, h⟩ := v_ckS h
          obtain ⟨M4, eM4, h⟩ := v_ltM h
          have fM4 : v_fr [128, 129, 130, 131] [(79, 61)] M M4 := by rw [eM4]; exact v_frw (by simp) fz3
          obtain ⟨hb, h⟩ := v_ckS h
          obtain ⟨M5, eM5, h⟩ := v_ltM h
          have fM5 : v_fr [128, 129, 130, 131] [(79, 61)] M M5 := by rw [eM5]; exact v_frw (by simp) fM4
          obtain ⟨hb, h⟩ := v_ckS h
          obtain ⟨M6, eM6, h⟩ := v_ltM h
          have fM6 : v_fr [128, 129, 130, 131] [(79, 61)] M M6 := by rw [eM6]; exact v_frw (by simp) fM5
          obtain ⟨hb, h⟩ := v_ckS h
          obtain ⟨M7, eM7, h⟩ := v_ltM h
          have fM7 : v_fr [128, 129, 130, 131] [(79, 61)] M M7 := by rw [eM7]; exact v_frw (by simp) fM6
          obtain ⟨M8, eM8, h⟩ := v_ltM h
          have fM8 : v_fr [128, 129, 130, 131] [(79, 61)] M M8 := by rw [eM8]; exact v_fro (by simp) fM7
          have h := Option.some.inj h
          subst h
          exact fM8
theorem fr_X12_needOf {N : Nat} {x1 : Int32} {M : v_M} {out : Int32 × v_M} (h : f_X12_needOf N x1 M = some out) : v_fr [] [] M out.2 := by
  have fM : v_fr [] [] M M := v_frR
  unfold f_X12_needOf at h
  obtain ⟨hb, h⟩ := v_ckS h
  obtain ⟨hb, h⟩ := v_ckS h
  have h := Option.some.inj h
  subst h
  exact fM
theorem fw_X12_looks_L215 {N : Nat} {x1 : Int32} {x2 : Int32} {M : v_M} {out : Int32 × v_M} {k145 : Int32 → v_M → Option (Int32 × v_M)} (hk145 : ∀ (x1 : Int32) (M : v_M), k145 x1 M = some out → v_fr [126, 132, 134, 135] [] M out.2) {k185 : Int32 → Int32 → v_M → Option (Int32 × v_M)} (hk185 : ∀ (x1 : Int32) (x2 : Int32) (M : v_M), k185 x1 x2 M = some out → v_fr [126, 132, 134, 135] [] M out.2) (h : f_X12_looks_L215 N k145 k185 x1 x2 M = some out) : v_fr [126, 132, 134, 135] [] M out.2 := by
  have fM : v_fr [126, 132, 134, 135] [] M M := v_frR
  unfold f_X12_looks_L215 at h
  exact v_frT fM (hk185 _ _ _ h)
theorem fv_X12_looks_L185 {N : Nat} {out : Int32 × v_M} {k145 : Int32 → v_M → Option (Int32 × v_M)} (hk145 : ∀ (x1 : Int32) (M : v_M), k145 x1 M = some out → v_fr [126, 132, 134, 135] [] M out.2) (n : Nat) : ∀ (x1 : Int32) (x2 : Int32) (M : v_M), f_X12_looks_L185 N k145 n x1 x2 M = some out → v_fr [126, 132, 134, 135] [] M out.2 := by
  induction n with
  | zero => intro x1 x2 M h; rw [f_X12_looks_L185] at h; cases h
  | succ n ih =>
    intro x1 x2 M h
    have fM : v_fr [126, 132, 134, 135] [] M M := v_frR
    rw [f_X12_looks_L185] at h
    obtain ⟨hb, h⟩ := v_ckS h
    obtain ⟨hb, h⟩ := v_ckS h
    rcases v_iteS h with ⟨c, h⟩ | ⟨c, h⟩
    · obtain ⟨hb, h⟩ := v_ckS h
      obtain ⟨hb, h⟩ := v_ckS h
      rcases v_iteS h with ⟨c, h⟩ | ⟨c, h⟩
      · obtain ⟨hb, h⟩ := v_ckS h
        obtain ⟨M1, eM1, h⟩ := v_ltM h
        have fM1 : v_fr [126, 132, 134, 135] [] M M1 := by rw [eM1]; exact v_frw (by simp) fM
        exact v_frT fM1 (hk145 _ _ h)
      · exact v_frT fM (fw_X12_looks_L215 hk145 ih h)
    · exact v_frT fM (fw_X12_looks_L215 hk145 ih h)
theorem fw_X12_looks_L185 {N n : Nat} {x1 : Int32} {x2 : Int32} {M : v_M} {out : Int32 × v_M} {k145 : Int32 → v_M → Option (Int32 × v_M)} (hk145 : ∀ (x1 : Int32) (M : v_M), k145 x1 M = some out → v_fr [126, 132, 134, 135] [] M out.2) (h : f_X12_looks_L185 N k145 n x1 x2 M = some out) : v_fr [126, 132, 134, 135] [] M out.2 := fv_X12_looks_L185 hk145 n x1 x2 M h
theorem fw_X12_looks_L182 {N : Nat} {x1 : Int32} {t0 : Int32} {t1 : Int32} {M : v_M} {out : Int32 × v_M} {k145 : Int32 → v_M → Option (Int32 × v_M)} (hk145 : ∀ (x1 : Int32) (M : v_M), k145 x1 M = some out → v_fr [126, 132, 134, 135] [] M out.2) (h : f_X12_looks_L182 N k145 x1 t0 t1 M = some out) : v_fr [126, 132, 134, 135] [] M out.2 := by
  have fM : v_fr [126, 132, 134, 135] [] M M := v_frR
  unfold f_X12_looks_L182 at h
  obtain ⟨hb, h⟩ := v_ckS h
  obtain ⟨M1, eM1, h⟩ := v_ltM h
  have fM1 : v_fr [126, 132, 134, 135] [] M M1 := by rw [eM1]; exact v_frw (by simp) fM
  exact v_frT fM1 (fw_X12_looks_L185 hk145 h)
theorem fv_X12_looks_L145 {N : Nat} {out : Int32 × v_M} (n : Nat) : ∀ (x1 : Int32) (M : v_M), f_X12_looks_L145 N n x1 M = some out → v_fr [126, 132, 134, 135] [] M out.2 := by
  induction n with
  | zero => intro x1 M h; rw [f_X12_looks_L145] at h; cases h
  | succ n ih =>
    intro x1 M h
    have fM : v_fr [126, 132, 134, 135] [] M M := v_frR
    rw [f_X12_looks_L145] at h
    rcases v_iteS h with ⟨c, h⟩ | ⟨c, h⟩
    · have h := Option.some.inj h
      subst h
      exact fM
    · obtain ⟨hb, h⟩ := v_ckS h
      obtain ⟨z1, hz1, h⟩ := v_bdS h
      have fz1 : v_fr [126, 132, 134, 135] [] M z1.2 := v_frt (by simp) (by simp) fM (fr_X12_needOf hz1)
      obtain ⟨hb, h⟩ := v_ckS h
      rcases v_iteS h with ⟨c, h⟩ | ⟨c, h⟩
      · exact v_frT fz1 (fw_X12_looks_L182 ih h)
      · exact v_frT fz1 (fw_X12_looks_L182 ih h)
theorem fw_X12_looks_L145 {N n : Nat} {x1 : Int32} {M : v_M} {out : Int32 × v_M} (h : f_X12_looks_L145 N n x1 M = some out) : v_fr [126, 132, 134, 135] [] M out.2 := fv_X12_looks_L145 n x1 M h
theorem fw_X12_looks_L137 {N : Nat} {x1 : Int32} {M : v_M} {out : Int32 × v_M} {k31 : Int32 → v_M → Option (Int32 × v_M)} (hk31 : ∀ (x1 : Int32) (M : v_M), k31 x1 M = some out → v_fr [126, 132, 134, 135] [] M out.2) (h : f_X12_looks_L137 N k31 x1 M = some out) : v_fr [126, 132, 134, 135] [] M out.2 := by
  have fM : v_fr [126, 132, 134, 135] [] M M := v_frR
  unfold f_X12_looks_L137 at h
  exact v_frT fM (hk31 _ _ h)
theorem fw_X12_looks_L136 {N : Nat} {x1 : Int32} {t0 : Int32} {t1 : Int32} {M : v_M} {out : Int32 × v_M} {k31 : Int32 → v_M → Option (Int32 × v_M)} (hk31 : ∀ (x1 : Int32) (M : v_M), k31 x1 M = some out → v_fr [126, 132, 134, 135] [] M out.2) (h : f_X12_looks_L136 N k31 x1 t0 t1 M = some out) : v_fr [126, 132, 134, 135] [] M out.2 := by
  have fM : v_fr [126, 132, 134, 135] [] M M := v_frR
  unfold f_X12_looks_L136 at h
  obtain ⟨hb, h⟩ := v_ckS h
  obtain ⟨M1, eM1, h⟩ := v_ltM h
  have fM1 : v_fr [126, 132, 134, 135] [] M M1 := by rw [eM1]; exact v_frw (by simp) fM
  exact v_frT fM1 (fw_X12_looks_L137 hk31 h)
theorem fw_X12_looks_L107 {N : Nat} {x1 : Int32} {t0 : Int32} {t1 : Int32} {M : v_M} {out : Int32 × v_M} {k31 : Int32 → v_M → Option (Int32 × v_M)} (hk31 : ∀ (x1 : Int32) (M : v_M), k31 x1 M = some out → v_fr [126, 132, 134, 135] [] M out.2) (h : f_X12_looks_L107 N k31 x1 t0 t1 M = some out) : v_fr [126, 132, 134, 135] [] M out.2 := by
  have fM : v_fr [126, 132, 134, 135] [] M M := v_frR
  unfold f_X12_looks_L107 at h
  obtain ⟨hb, h⟩ := v_ckS h
  obtain ⟨M1, eM1, h⟩ := v_ltM h
  have fM1 : v_fr [126, 132, 134, 135] [] M M1 := by rw [eM1]; exact v_frw (by simp) fM
  exact v_frT fM1 (fw_X12_looks_L137 hk31 h)
theorem fw_X12_looks_L97 {N : Nat} {x1 : Int32} {x3 : Int32} {t0 : Int32} {M : v_M} {out : Int32 × v_M} {k31 : Int32 → v_M → Option (Int32 × v_M)} (hk31 : ∀ (x1 : Int32) (M : v_M), k31 x1 M = some out → v_fr [126, 132, 134, 135] [] M out.2) (h : f_X12_looks_L97 N k31 x1 x3 t0 M = some out) : v_fr [126, 132, 134, 135] [] M out.2 := by
  have fM : v_fr [126, 132, 134, 135] [] M M := v_frR
  unfold f_X12_looks_L97 at h
  exact v_frT fM (fw_X12_looks_L107 hk31 h)
theorem fv_X12_looks_L31 {N : Nat} {out : Int32 × v_M} (n : Nat) : ∀ (x1 : Int32) (M : v_M), f_X12_looks_L31 N n x1 M = some out → v_fr [126, 132, 134, 135] [] M out.2 := by
  induction n with
  | zero => intro x1 M h; rw [f_X12_looks_L31] at h; cases h
  | succ n ih =>
    intro x1 M h
    have fM : v_fr [126, 132, 134, 135] [] M M := v_frR
    rw [f_X12_looks_L31] at h
    rcases v_iteS h with ⟨c, h⟩ | ⟨c, h⟩
    · exact v_frT fM (fw_X12_looks_L145 h)
    · obtain ⟨hb, h⟩ := v_ckS h
      obtain ⟨hb, h⟩ := v_ckS h
      obtain ⟨y1, ey1, h⟩ := v_ltM h
      obtain ⟨hb, h⟩ := v_ckS h
      obtain ⟨y2, ey2, h⟩ := v_ltM h
      obtain ⟨hb, h⟩ := v_ckS h
      rcases v_iteS h with ⟨c, h⟩ | ⟨c, h⟩
      · obtain ⟨hb, h⟩ := v_ckS h
        rcases v_iteS h with ⟨c, h⟩ | ⟨c, h⟩
        · obtain ⟨hb, h⟩ := v_ckS h
          exact v_frT fM (fw_X12_looks_L136 ih h)
        · exact v_frT fM (fw_X12_looks_L136 ih h)
      · obtain ⟨hb, h⟩ := v_ckS h
        rcases v_iteS h with ⟨c, h⟩ | ⟨c, h⟩
        · exact v_frT fM (fw_X12_looks_L97 ih h)
        · obtain ⟨hb, h⟩ := v_ckS h
          rcases v_iteS h with ⟨c, h⟩ | ⟨c, h⟩
          · obtain ⟨hb, h⟩ := v_ckS h
            exact v_frT fM (fw_X12_looks_L107 ih h)
          · exact v_frT fM (fw_X12_looks_L97 ih h)
theorem fw_X12_looks_L31 {N n : Nat} {x1 : Int32} {M : v_M} {out : Int32 × v_M} (h : f_X12_looks_L31 N n x1 M = some out) : v_fr [126, 132, 134, 135] [] M out.2 := fv_X12_looks_L31 n x1 M h
theorem fv_X12_looks_L2 {N : Nat} {out : Int32 × v_M} (n : Nat) : ∀ (x1 : Int32) (M : v_M), f_X12_looks_L2 N n x1 M = some out → v_fr [126, 132, 134, 135] [] M out.2 := by
  induction n with
  | zero => intro x1 M h; rw [f_X12_looks_L2] at h; cases h
  | succ n ih =>
    intro x1 M h
    have fM : v_fr [126, 132, 134, 135] [] M M := v_frR
    rw [f_X12_looks_L2] at h
    rcases v_iteS h with ⟨c, h⟩ | ⟨c, h⟩
    · exact v_frT fM (fw_X12_looks_L31 h)
    · obtain ⟨hb, h⟩ := v_ckS h
      obtain ⟨M1, eM1, h⟩ := v_ltM h
      have fM1 : v_fr [126, 132, 134, 135] [] M M1 := by rw [eM1]; exact v_frw (by simp) fM
      obtain ⟨hb, h⟩ := v_ckS h
      obtain ⟨M2, eM2, h⟩ := v_ltM h
      have fM2 : v_fr [126, 132, 134, 135] [] M M2 := by rw [eM2]; exact v_frw (by simp) fM1
      exact v_frT fM2 (ih _ _ h)
theorem fw_X12_looks_L2 {N n : Nat} {x1 : Int32} {M : v_M} {out : Int32 × v_M} (h : f_X12_looks_L2 N n x1 M = some out) : v_fr [126, 132, 134, 135] [] M out.2 := fv_X12_looks_L2 n x1 M h
theorem fr_X12_looks {N : Nat} {M : v_M} {out : Int32 × v_M} (h : f_X12_looks N M = some out) : v_fr [126, 132, 134, 135] [] M out.2 := by
  have fM : v_fr [126, 132, 134, 135] [] M M := v_frR
  unfold f_X12_looks at h
  exact v_frT fM (fw_X12_looks_L2 h)
theorem fr_X12_fits {N : Nat} {x1 : Int32} {x2 : Int32} {x3 : Int32} {M : v_M} {out : Int32 × v_M} (h : f_X12_fits N x1 x2 x3 M = some out) : v_fr [] [] M out.2 := by
  have fM : v_fr [] [] M M := v_frR
  unfold f_X12_fits at h
  rcases v_iteS h with ⟨c, h⟩ | ⟨c, h⟩
  · obtain ⟨hb, h⟩ := v_ckS h
    have h := Option.some.inj h
    subst h
    exact fM
  · obtain ⟨hb, h⟩ := v_ckS h
    rcases v_iteS h with ⟨c, h⟩ | ⟨c, h⟩
    · obtain ⟨hb, h⟩ := v_ckS h
      have h := Option.some.inj h
      subst h
      exact fM
    · obtain ⟨z1, hz1, h⟩ := v_bdS h
      have fz1 : v_fr [] [] M z1.2 := v_frt (by simp) (by simp) fM (fr_X12_needOf hz1)
      rcases v_iteS h with ⟨c, h⟩ | ⟨c, h⟩
      · obtain ⟨hb, h⟩ := v_ckS h
        obtain ⟨hb, h⟩ := v_ckS h
        rcases v_iteS h with ⟨c, h⟩ | ⟨c, h⟩
        · obtain ⟨hb, h⟩ := v_ckS h
          have h := Option.some.inj h
          subst h
          exact fz1
        · obtain ⟨hb, h⟩ := v_ckS h
          have h := Option.some.inj h
          subst h
          exact fz1
      · obtain ⟨hb, h⟩ := v_ckS h
        have h := Option.some.inj h
        subst h
        exact fz1
theorem fw_X12_isIn_L31 {N : Nat} {x1 : Int32} {x2 : Int32} {x4 : Int32} {t0 : Int32} {M : v_M} {out : Int32 × v_M} {k5 : Int32 → Int32 → Int32 → Int32 → v_M → Option (Int32 × v_M)} (hk5 : ∀ (x1 : Int32) (x2 : Int32) (x3 : Int32) (x4 : Int32) (M : v_M), k5 x1 x2 x3 x4 M = some out → v_fr [] [] M out.2) (h : f_X12_isIn_L31 N k5 x1 x2 x4 t0 M = some out) : v_fr [] [] M out.2 := by
  have fM : v_fr [] [] M M := v_frR
  unfold f_X12_isIn_L31 at h
  exact v_frT fM (hk5 _ _ _ _ _ h)
theorem fw_X12_isIn_L26 {N : Nat} {x1 : Int32} {x2 : Int32} {x4 : Int32} {M : v_M} {out : Int32 × v_M} {k5 : Int32 → Int32 → Int32 → Int32 → v_M → Option (Int32 × v_M)} (hk5 : ∀ (x1 : Int32) (x2 : Int32) (x3 : Int32) (x4 : Int32) (M : v_M), k5 x1 x2 x3 x4 M = some out → v_fr [] [] M out.2) (h : f_X12_isIn_L26 N k5 x1 x2 x4 M = some out) : v_fr [] [] M out.2 := by
  have fM : v_fr [] [] M M := v_frR
  unfold f_X12_isIn_L26 at h
  exact v_frT fM (fw_X12_isIn_L31 hk5 h)
theorem fv_X12_isIn_L5 {N : Nat} {out : Int32 × v_M} (n : Nat) : ∀ (x1 : Int32) (x2 : Int32) (x3 : Int32) (x4 : Int32) (M : v_M), f_X12_isIn_L5 N n x1 x2 x3 x4 M = some out → v_fr [] [] M out.2 := by
  induction n with
  | zero => intro x1 x2 x3 x4 M h; rw [f_X12_isIn_L5] at h; cases h
  | succ n ih =>
    intro x1 x2 x3 x4 M h
    have fM : v_fr [] [] M M := v_frR
    rw [f_X12_isIn_L5] at h
    rcases v_iteS h with ⟨c, h⟩ | ⟨c, h⟩
    · obtain ⟨hb, h⟩ := v_ckS h
      have h := Option.some.inj h
      subst h
      exact fM
    · rcases v_iteS h with ⟨c, h⟩ | ⟨c, h⟩
      · obtain ⟨hb, h⟩ := v_ckS h
        rcases v_iteS h with ⟨c, h⟩ | ⟨c, h⟩
        · exact v_frT fM (fw_X12_isIn_L26 ih h)
        · exact v_frT fM (fw_X12_isIn_L31 ih h)
      · exact v_frT fM (fw_X12_isIn_L26 ih h)
theorem fw_X12_isIn_L5 {N n : Nat} {x1 : Int32} {x2 : Int32} {x3 : Int32} {x4 : Int32} {M : v_M} {out : Int32 × v_M} (h : f_X12_isIn_L5 N n x1 x2 x3 x4 M = some out) : v_fr [] [] M out.2 := fv_X12_isIn_L5 n x1 x2 x3 x4 M h
theorem fr_X12_isIn {N : Nat} {x1 : Int32} {x2 : Int32} {M : v_M} {out : Int32 × v_M} (h : f_X12_isIn N x1 x2 M = some out) : v_fr [] [] M out.2 := by
  have fM : v_fr [] [] M M := v_frR
  unfold f_X12_isIn at h
  exact v_frT fM (fw_X12_isIn_L5 h)
theorem fv_X12_gives_L5 {N : Nat} {out : Int32 × v_M} (n : Nat) : ∀ (x3 : Int32) (x4 : Int32) (M : v_M), f_X12_gives_L5 N n x3 x4 M = some out → v_fr [136] [] M out.2 := by
  induction n with
  | zero => intro x3 x4 M h; rw [f_X12_gives_L5] at h; cases h
  | succ n ih =>
    intro x3 x4 M h
    have fM : v_fr [136] [] M M := v_frR
    rw [f_X12_gives_L5] at h
    rcases v_iteS h with ⟨c, h⟩ | ⟨c, h⟩
    · have h := Option.some.inj h
      subst h
      exact fM
    · obtain ⟨hb, h⟩ := v_ckS h
      obtain ⟨M1, eM1, h⟩ := v_ltM h
      have fM1 : v_fr [136] [] M M1 := by rw [eM1]; exact v_frw (by simp) fM
      obtain ⟨hb, h⟩ := v_ckS h
      obtain ⟨y2, ey2, h⟩ := v_ltM h
      obtain ⟨hb, h⟩ := v_ckS h
      obtain ⟨y3, ey3, h⟩ := v_ltM h
      exact v_frT fM1 (ih _ _ _ h)
theorem fw_X12_gives_L5 {N n : Nat} {x3 : Int32} {x4 : Int32} {M : v_M} {out : Int32 × v_M} (h : f_X12_gives_L5 N n x3 x4 M = some out) : v_fr [136] [] M out.2 := fv_X12_gives_L5 n x3 x4 M h
theorem fr_X12_gives {N : Nat} {x1 : Int32} {x2 : Int32} {M : v_M} {out : Int32 × v_M} (h : f_X12_gives N x1 x2 M = some out) : v_fr [136] [] M out.2 := by
  have fM : v_fr [136] [] M M := v_frR
  unfold f_X12_gives at h
  exact v_frT fM (fw_X12_gives_L5 h)
theorem fw_X12_paper_L22 {N : Nat} {x1 : Int32} {x2 : Int32} {x3 : Int32} {M : v_M} {out : Int32 × v_M} (h : f_X12_paper_L22 N x1 x2 x3 M = some out) : v_fr [140, 141, 142] [(79, 80)] M out.2 := by
  have fM : v_fr [140, 141, 142] [(79, 80)] M M := v_frR
  unfold f_X12_paper_L22 at h
  obtain ⟨z1, hz1, h⟩ := v_bdS h
  have fz1 : v_fr [140, 141, 142] [(79, 80)] M z1.2 := v_frt (by simp) (by simp) fM (fr_X12_in hz1)
  rcases v_iteS h with ⟨c, h⟩ | ⟨c, h⟩
  · have h := Option.some.inj h
    subst h
    exact fz1
  · rcases v_iteS h with ⟨c, h⟩ | ⟨c, h⟩
    · have h := Option.some.inj h
      subst h
      exact fz1
    · rcases v_iteS h with ⟨c, h⟩ | ⟨c, h⟩
      · obtain ⟨hb, h⟩ := v_ckS h
        obtain ⟨M2, eM2, h⟩ := v_ltM h
        have fM2 : v_fr [140, 141, 142] [(79, 80)] M M2 := by rw [eM2]; exact v_frw (by simp) fz1
        obtain ⟨hb, h⟩ := v_ckS h
        obtain ⟨M3, eM3, h⟩ := v_ltM h
        have fM3 : v_fr [140, 141, 142] [(79, 80)] M M3 := by rw [eM3]; exact v_frw (by simp) fM2
        obtain ⟨hb, h⟩ := v_ckS h
        obtain ⟨M4, eM4, h⟩ := v_ltM h
        have fM4 : v_fr [140, 141, 142] [(79, 80)] M M4 := by rw [eM4]; exact v_frw (by simp) fM3
        obtain ⟨M5, eM5, h⟩ := v_ltM h
        have fM5 : v_fr [140, 141, 142] [(79, 80)] M M5 := by rw [eM5]; exact v_fro (by simp) fM4
        have h := Option.some.inj h
        subst h
        exact fM5
      · have h := Option.some.inj h
        subst h
        exact fz1
theorem fr_X12_paper {N : Nat} {x1 : Int32} {x2 : Int32} {x3 : Int32} {M : v_M} {out : Int32 × v_M} (h : f_X12_paper N x1 x2 x3 M = some out) : v_fr [140, 141, 142] [(79, 80)] M out.2 := by
  have fM : v_fr [140, 141, 142] [(79, 80)] M M := v_frR
  unfold f_X12_paper at h
  rcases v_iteS h with ⟨c, h⟩ | ⟨c, h⟩
  · have h := Option.some.inj h
    subst h
    exact fM
  · rcases v_iteS h with ⟨c, h⟩ | ⟨c, h⟩
    · exact v_frT fM (fw_X12_paper_L22 h)
    · obtain ⟨z1, hz1, h⟩ := v_bdS h
      have fz1 : v_fr [140, 141, 142] [(79, 80)] M z1.2 := v_frt (by simp) (by simp) fM (fr_X12_isMachine hz1)
      rcases v_iteS h with ⟨c, h⟩ | ⟨c, h⟩
      · have h := Option.some.inj h
        subst h
        exact fz1
      · exact v_frT fz1 (fw_X12_paper_L22 h)
theorem fw_X12_read_L86 {N : Nat} {x3 : Int32} {t0 : Int32} {M : v_M} {out : Int32 × v_M} (h : f_X12_read_L86 N x3 t0 M = some out) : v_fr [143] [] M out.2 := by
  have fM : v_fr [143] [] M M := v_frR
  unfold f_X12_read_L86 at h
  obtain ⟨hb, h⟩ := v_ckS h
  obtain ⟨M1, eM1, h⟩ := v_ltM h
  have fM1 : v_fr [143] [] M M1 := by rw [eM1]; exact v_frw (by simp) fM
  obtain ⟨hb, h⟩ := v_ckS h
  have h := Option.some.inj h
  subst h
  exact fM1
theorem fr_X12_read {N : Nat} {x1 : Int32} {x2 : Int32} {x3 : Int32} {M : v_M} {out : Int32 × v_M} (h : f_X12_read N x1 x2 x3 M = some out) : v_fr [143] [] M out.2 := by
  have fM : v_fr [143] [] M M := v_frR
  unfold f_X12_read at h
  obtain ⟨z1, hz1, h⟩ := v_bdS h
  have fz1 : v_fr [143] [] M z1.2 := v_frt (by simp) (by simp) fM (fr_X12_in hz1)
  rcases v_iteS h with ⟨c, h⟩ | ⟨c, h⟩
  · obtain ⟨hb, h⟩ := v_ckS h
    have h := Option.some.inj h
    subst h
    exact fz1
  · obtain ⟨z2, hz2, h⟩ := v_bdS h
    have fz2 : v_fr [143] [] M z2.2 := v_frt (by simp) (by simp) fz1 (fr_X12_in hz2)
    rcases v_iteS h with ⟨c, h⟩ | ⟨c, h⟩
    · obtain ⟨hb, h⟩ := v_ckS h
      have h := Option.some.inj h
      subst h
      exact fz2
    · obtain ⟨hb, h⟩ := v_ckS h
      obtain ⟨z3, hz3, h⟩ := v_bdS h
      have fz3 : v_fr [143] [] M z3.2 := v_frt (by simp) (by simp) fz2 (fr_X12_in hz3)
      rcases v_iteS h with ⟨c, h⟩ | ⟨c, h⟩
      · obtain ⟨hb, h⟩ := v_ckS h
        have h := Option.some.inj h
        subst h
        exact fz3
      · obtain ⟨y4, ey4, h⟩ := v_ltM h
        obtain ⟨hb, h⟩ := v_ckS h
        rcases v_iteS h with ⟨c, h⟩ | ⟨c, h⟩
        · exact v_frT fz3 (fw_X12_read_L86 h)
        · obtain ⟨hb, h⟩ := v_ckS h
          rcases v_iteS h with ⟨c, h⟩ | ⟨c, h⟩
          · obtain ⟨hb, h⟩ := v_ckS h
            obtain ⟨hb, h⟩ := v_ckS h
            obtain ⟨M5, eM5, h⟩ := v_ltM h
            have fM5 : v_fr [143] [] M M5 := by rw [eM5]; exact v_frw (by simp) fz3
            obtain ⟨hb, h⟩ := v_ckS h
            have h := Option.some.inj h
            subst h
            exact fM5
          · exact v_frT fz3 (fw_X12_read_L86 h)
theorem fw_X12_knows_L95 {N : Nat} {x1 : Int32} {x2 : Int32} {x3 : Int32} {M : v_M} {out : Int32 × v_M} {k2 : Int32 → Int32 → v_M → Option (Int32 × v_M)} (hk2 : ∀ (x1 : Int32) (x2 : Int32) (M : v_M), k2 x1 x2 M = some out → v_fr [144] [] M out.2) (h : f_X12_knows_L95 N k2 x1 x2 x3 M = some out) : v_fr [144] [] M out.2 := by
  have fM : v_fr [144] [] M M := v_frR
  unfold f_X12_knows_L95 at h
  obtain ⟨hb, h⟩ := v_ckS h
  obtain ⟨M1, eM1, h⟩ := v_ltM h
  have fM1 : v_fr [144] [] M M1 := by rw [eM1]; exact v_frw (by simp) fM
  exact v_frT fM1 (hk2 _ _ _ h)
theorem fw_X12_knows_L89 {N : Nat} {x1 : Int32} {x2 : Int32} {x3 : Int32} {x4 : Int32} {M : v_M} {out : Int32 × v_M} {k2 : Int32 → Int32 → v_M → Option (Int32 × v_M)} (hk2 : ∀ (x1 : Int32) (x2 : Int32) (M : v_M), k2 x1 x2 M = some out → v_fr [144] [] M out.2) {k25 : Int32 → Int32 → Int32 → Int32 → v_M → Option (Int32 × v_M)} (hk25 : ∀ (x1 : Int32) (x2 : Int32) (x3 : Int32) (x4 : Int32) (M : v_M), k25 x1 x2 x3 x4 M = some out → v_fr [144] [] M out.2) (h : f_X12_knows_L89 N k2 k25 x1 x2 x3 x4 M = some out) : v_fr [144] [] M out.2 := by
  have fM : v_fr [144] [] M M := v_frR
  unfold f_X12_knows_L89 at h
  exact v_frT fM (hk25 _ _ _ _ _ h)
theorem fw_X12_knows_L88 {N : Nat} {x1 : Int32} {x2 : Int32} {x4 : Int32} {t0 : Int32} {M : v_M} {out : Int32 × v_M} {k2 : Int32 → Int32 → v_M → Option (Int32 × v_M)} (hk2 : ∀ (x1 : Int32) (x2 : Int32) (M : v_M), k2 x1 x2 M = some out → v_fr [144] [] M out.2) {k25 : Int32 → Int32 → Int32 → Int32 → v_M → Option (Int32 × v_M)} (hk25 : ∀ (x1 : Int32) (x2 : Int32) (x3 : Int32) (x4 : Int32) (M : v_M), k25 x1 x2 x3 x4 M = some out → v_fr [144] [] M out.2) (h : f_X12_knows_L88 N k2 k25 x1 x2 x4 t0 M = some out) : v_fr [144] [] M out.2 := by
  have fM : v_fr [144] [] M M := v_frR
  unfold f_X12_knows_L88 at h
  exact v_frT fM (fw_X12_knows_L89 hk2 hk25 h)
theorem fv_X12_knows_L25 {N : Nat} {out : Int32 × v_M} {k2 : Int32 → Int32 → v_M → Option (Int32 × v_M)} (hk2 : ∀ (x1 : Int32) (x2 : Int32) (M : v_M), k2 x1 x2 M = some out → v_fr [144] [] M out.2) (n : Nat) : ∀ (x1 : Int32) (x2 : Int32) (x3 : Int32) (x4 : Int32) (M : v_M), f_X12_knows_L25 N k2 n x1 x2 x3 x4 M = some out → v_fr [144] [] M out.2 := by
  induction n with
  | zero => intro x1 x2 x3 x4 M h; rw [f_X12_knows_L25] at h; cases h
  | succ n ih =>
    intro x1 x2 x3 x4 M h
    have fM : v_fr [144] [] M M := v_frR
    rw [f_X12_knows_L25] at h
    rcases v_iteS h with ⟨c, h⟩ | ⟨c, h⟩
    · exact v_frT fM (fw_X12_knows_L95 hk2 h)
    · rcases v_iteS h with ⟨c, h⟩ | ⟨c, h⟩
      · exact v_frT fM (fw_X12_knows_L95 hk2 h)
      · obtain ⟨hb, h⟩ := v_ckS h
        rcases v_iteS h with ⟨c, h⟩ | ⟨c, h⟩
        · obtain ⟨hb, h⟩ := v_ckS h
          rcases v_iteS h with ⟨c, h⟩ | ⟨c, h⟩
          · exact v_frT fM (fw_X12_knows_L88 hk2 ih h)
          · obtain ⟨hb, h⟩ := v_ckS h
            rcases v_iteS h with ⟨c, h⟩ | ⟨c, h⟩
            · exact v_frT fM (fw_X12_knows_L88 hk2 ih h)
            · obtain ⟨hb, h⟩ := v_ckS h
              exact v_frT fM (fw_X12_knows_L88 hk2 ih h)
        · exact v_frT fM (fw_X12_knows_L89 hk2 ih h)
theorem fw_X12_knows_L25 {N n : Nat} {x1 : Int32} {x2 : Int32} {x3 : Int32} {x4 : Int32} {M : v_M} {out : Int32 × v_M} {k2 : Int32 → Int32 → v_M → Option (Int32 × v_M)} (hk2 : ∀ (x1 : Int32) (x2 : Int32) (M : v_M), k2 x1 x2 M = some out → v_fr [144] [] M out.2) (h : f_X12_knows_L25 N k2 n x1 x2 x3 x4 M = some out) : v_fr [144] [] M out.2 := fv_X12_knows_L25 hk2 n x1 x2 x3 x4 M h
theorem fv_X12_knows_L2 {N : Nat} {out : Int32 × v_M} (n : Nat) : ∀ (x1 : Int32) (x2 : Int32) (M : v_M), f_X12_knows_L2 N n x1 x2 M = some out → v_fr [144] [] M out.2 := by
  induction n with
  | zero => intro x1 x2 M h; rw [f_X12_knows_L2] at h; cases h
  | succ n ih =>
    intro x1 x2 M h
    have fM : v_fr [144] [] M M := v_frR
    rw [f_X12_knows_L2] at h
    rcases v_iteS h with ⟨c, h⟩ | ⟨c, h⟩
    · have h := Option.some.inj h
      subst h
      exact fM
    · obtain ⟨hb, h⟩ := v_ckS h
      obtain ⟨y1, ey1, h⟩ := v_ltM h
      exact v_frT fM (fw_X12_knows_L25 ih h)
theorem fw_X12_knows_L2 {N n : Nat} {x1 : Int32} {x2 : Int32} {M : v_M} {out : Int32 × v_M} (h : f_X12_knows_L2 N n x1 x2 M = some out) : v_fr [144] [] M out.2 := fv_X12_knows_L2 n x1 x2 M h
theorem fr_X12_knows {N : Nat} {x1 : Int32} {M : v_M} {out : Int32 × v_M} (h : f_X12_knows N x1 M = some out) : v_fr [144] [] M out.2 := by
  have fM : v_fr [144] [] M M := v_frR
  unfold f_X12_knows at h
  exact v_frT fM (fw_X12_knows_L2 h)
theorem fr_X12_knew {N : Nat} {x1 : Int32} {x2 : Int32} {M : v_M} {out : Int32 × v_M} (h : f_X12_knew N x1 x2 M = some out) : v_fr [144] [] M out.2 := by
  have fM : v_fr [144] [] M M := v_frR
  unfold f_X12_knew at h
  obtain ⟨z1, hz1, h⟩ := v_bdS h
  have fz1 : v_fr [144] [] M z1.2 := v_frt (by simp) (by simp) fM (fr_X12_in hz1)
  rcases v_iteS h with ⟨c, h⟩ | ⟨c, h⟩
  · have h := Option.some.inj h
    subst h
    exact fz1
  · obtain ⟨z2, hz2, h⟩ := v_bdS h
    have fz2 : v_fr [144] [] M z2.2 := v_frt (by simp) (by simp) fz1 (fr_X12_in hz2)
    rcases v_iteS h with ⟨c, h⟩ | ⟨c, h⟩
    · have h := Option.some.inj h
      subst h
      exact fz2
    · obtain ⟨z3, hz3, h⟩ := v_bdS h
      have fz3 : v_fr [144] [] M z3.2 := v_frt (by simp) (by simp) fz2 (fr_X12_knows hz3)
      obtain ⟨hb, h⟩ := v_ckS h
      rcases v_iteS h with ⟨c, h⟩ | ⟨c, h⟩
      · have h := Option.some.inj h
        subst h
        exact fz3
      · obtain ⟨hb, h⟩ := v_ckS h
        rcases v_iteS h with ⟨c, h⟩ | ⟨c, h⟩
        · obtain ⟨hb, h⟩ := v_ckS h
          have h := Option.some.inj h
          subst h
          exact fz3
        · have h := Option.some.inj h
          subst h
          exact fz3
theorem fw_X12_warned_L89 {N : Nat} {x1 : Int32} {x2 : Int32} {x4 : Int32} {x5 : Int32} {t0 : Int32} {t1 : Int32} {M : v_M} {out : Int32 × v_M} {k22 : Int32 → Int32 → Int32 → Int32 → v_M → Option (Int32 × v_M)} (hk22 : ∀ (x1 : Int32) (x2 : Int32) (x3 : Int32) (x4 : Int32) (M : v_M), k22 x1 x2 x3 x4 M = some out → v_fr [144] [] M out.2) {k38 : Int32 → Int32 → Int32 → Int32 → Int32 → v_M → Option (Int32 × v_M)} (hk38 : ∀ (x1 : Int32) (x2 : Int32) (x3 : Int32) (x4 : Int32) (x5 : Int32) (M : v_M), k38 x1 x2 x3 x4 x5 M = some out → v_fr [144] [] M out.2) (h : f_X12_warned_L89 N k22 k38 x1 x2 x4 x5 t0 t1 M = some out) : v_fr [144] [] M out.2 := by
  have fM : v_fr [144] [] M M := v_frR
  unfold f_X12_warned_L89 at h
  obtain ⟨y1, ey1, h⟩ := v_ltM h
  exact v_frT fM (hk38 _ _ _ _ _ _ h)
theorem fw_X12_warned_L88 {N : Nat} {x1 : Int32} {x2 : Int32} {x4 : Int32} {x5 : Int32} {t0 : Int32} {M : v_M} {out : Int32 × v_M} {k22 : Int32 → Int32 → Int32 → Int32 → v_M → Option (Int32 × v_M)} (hk22 : ∀ (x1 : Int32) (x2 : Int32) (x3 : Int32) (x4 : Int32) (M : v_M), k22 x1 x2 x3 x4 M = some out → v_fr [144] [] M out.2) {k38 : Int32 → Int32 → Int32 → Int32 → Int32 → v_M → Option (Int32 × v_M)} (hk38 : ∀ (x1 : Int32) (x2 : Int32) (x3 : Int32) (x4 : Int32) (x5 : Int32) (M : v_M), k38 x1 x2 x3 x4 x5 M = some out → v_fr [144] [] M out.2) (h : f_X12_warned_L88 N k22 k38 x1 x2 x4 x5 t0 M = some out) : v_fr [144] [] M out.2 := by
  have fM : v_fr [144] [] M M := v_frR
  unfold f_X12_warned_L88 at h
  exact v_frT fM (fw_X12_warned_L89 hk22 hk38 h)
theorem fv_X12_warned_L38 {N : Nat} {out : Int32 × v_M} {k22 : Int32 → Int32 → Int32 → Int32 → v_M → Option (Int32 × v_M)} (hk22 : ∀ (x1 : Int32) (x2 : Int32) (x3 : Int32) (x4 : Int32) (M : v_M), k22 x1 x2 x3 x4 M = some out → v_fr [144] [] M out.2) (n : Nat) : ∀ (x1 : Int32) (x2 : Int32) (x3 : Int32) (x4 : Int32) (x5 : Int32) (M : v_M), f_X12_warned_L38 N k22 n x1 x2 x3 x4 x5 M = some out → v_fr [144] [] M out.2 := by
  induction n with
  | zero => intro x1 x2 x3 x4 x5 M h; rw [f_X12_warned_L38] at h; cases h
  | succ n ih =>
    intro x1 x2 x3 x4 x5 M h
    have fM : v_fr [144] [] M M := v_frR
    rw [f_X12_warned_L38] at h
    rcases v_iteS h with ⟨c, h⟩ | ⟨c, h⟩
    · exact v_frT fM (hk22 _ _ _ _ _ h)
    · obtain ⟨hb, h⟩ := v_ckS h
      rcases v_iteS h with ⟨c, h⟩ | ⟨c, h⟩
      · obtain ⟨hb, h⟩ := v_ckS h
        rcases v_iteS h with ⟨c, h⟩ | ⟨c, h⟩
        · exact v_frT fM (fw_X12_warned_L88 hk22 ih h)
        · obtain ⟨hb, h⟩ := v_ckS h
          rcases v_iteS h with ⟨c, h⟩ | ⟨c, h⟩
          · exact v_frT fM (fw_X12_warned_L88 hk22 ih h)
          · exact v_frT fM (fw_X12_warned_L89 hk22 ih h)
      · exact v_frT fM (fw_X12_warned_L88 hk22 ih h)
theorem fw_X12_warned_L38 {N n : Nat} {x1 : Int32} {x2 : Int32} {x3 : Int32} {x4 : Int32} {x5 : Int32} {M : v_M} {out : Int32 × v_M} {k22 : Int32 → Int32 → Int32 → Int32 → v_M → Option (Int32 × v_M)} (hk22 : ∀ (x1 : Int32) (x2 : Int32) (x3 : Int32) (x4 : Int32) (M : v_M), k22 x1 x2 x3 x4 M = some out → v_fr [144] [] M out.2) (h : f_X12_warned_L38 N k22 n x1 x2 x3 x4 x5 M = some out) : v_fr [144] [] M out.2 := fv_X12_warned_L38 hk22 n x1 x2 x3 x4 x5 M h
theorem fv_X12_warned_L22 {N : Nat} {out : Int32 × v_M} (n : Nat) : ∀ (x1 : Int32) (x2 : Int32) (x3 : Int32) (x4 : Int32) (M : v_M), f_X12_warned_L22 N n x1 x2 x3 x4 M = some out → v_fr [144] [] M out.2 := by
  induction n with
  | zero => intro x1 x2 x3 x4 M h; rw [f_X12_warned_L22] at h; cases h
  | succ n ih =>
    intro x1 x2 x3 x4 M h
    have fM : v_fr [144] [] M M := v_frR
    rw [f_X12_warned_L22] at h
    rcases v_iteS h with ⟨c, h⟩ | ⟨c, h⟩
    · have h := Option.some.inj h
      subst h
      exact fM
    · obtain ⟨z1, hz1, h⟩ := v_bdS h
      have fz1 : v_fr [144] [] M z1.2 := v_frt (by simp) (by simp) fM (fr_X12_knows hz1)
      exact v_frT fz1 (fw_X12_warned_L38 ih h)
theorem fw_X12_warned_L22 {N n : Nat} {x1 : Int32} {x2 : Int32} {x3 : Int32} {x4 : Int32} {M : v_M} {out : Int32 × v_M} (h : f_X12_warned_L22 N n x1 x2 x3 x4 M = some out) : v_fr [144] [] M out.2 := fv_X12_warned_L22 n x1 x2 x3 x4 M h
theorem fr_X12_warned {N : Nat} {x1 : Int32} {x2 : Int32} {M : v_M} {out : Int32 × v_M} (h : f_X12_warned N x1 x2 M = some out) : v_fr [144] [] M out.2 := by
  have fM : v_fr [144] [] M M := v_frR
  unfold f_X12_warned at h
  obtain ⟨z1, hz1, h⟩ := v_bdS h
  have fz1 : v_fr [144] [] M z1.2 := v_frt (by simp) (by simp) fM (fr_X12_isMachine hz1)
  rcases v_iteS h with ⟨c, h⟩ | ⟨c, h⟩
  · have h := Option.some.inj h
    subst h
    exact fz1
  · obtain ⟨z2, hz2, h⟩ := v_bdS h
    have fz2 : v_fr [144] [] M z2.2 := v_frt (by simp) (by simp) fz1 (fr_X12_isDay hz2)
    rcases v_iteS h with ⟨c, h⟩ | ⟨c, h⟩
    · have h := Option.some.inj h
      subst h
      exact fz2
    · exact v_frT fz2 (fw_X12_warned_L22 h)
theorem fr_X12_wears {N : Nat} {x1 : Int32} {x2 : Int32} {M : v_M} {out : Int32 × v_M} (h : f_X12_wears N x1 x2 M = some out) : v_fr [87] [] M out.2 := by
  have fM : v_fr [87] [] M M := v_frR
  unfold f_X12_wears at h
  obtain ⟨z1, hz1, h⟩ := v_bdS h
  have fz1 : v_fr [87] [] M z1.2 := v_frt (by simp) (by simp) fM (fr_X12_isPart hz1)
  rcases v_iteS h with ⟨c, h⟩ | ⟨c, h⟩
  · have h := Option.some.inj h
    subst h
    exact fz1
  · obtain ⟨z2, hz2, h⟩ := v_bdS h
    have fz2 : v_fr [87] [] M z2.2 := v_frt (by simp) (by simp) fz1 (fr_X12_in hz2)
    rcases v_iteS h with ⟨c, h⟩ | ⟨c, h⟩
    · have h := Option.some.inj h
      subst h
      exact fz2
    · obtain ⟨hb, h⟩ := v_ckS h
      obtain ⟨y3, ey3, h⟩ := v_ltM h
      obtain ⟨hb, h⟩ := v_ckS h
      obtain ⟨M4, eM4, h⟩ := v_ltM h
      have fM4 : v_fr [87] [] M M4 := by rw [eM4]; exact v_frw (by simp) fz2
      have h := Option.some.inj h
      subst h
      exact fM4
theorem fw_X12_fly_L143 {N : Nat} {x1 : Int32} {x3 : Int32} {x4 : Int32} {t0 : Int32} {t1 : Int32} {M : v_M} {out : Int32 × v_M} {k56 : Int32 → Int32 → Int32 → v_M → Option (Int32 × v_M)} (hk56 : ∀ (x1 : Int32) (x3 : Int32) (x4 : Int32) (M : v_M), k56 x1 x3 x4 M = some out → v_fr [88, 92] [] M out.2) (h : f_X12_fly_L143 N k56 x1 x3 x4 t0 t1 M = some out) : v_fr [88, 92] [] M out.2 := by
  have fM : v_fr [88, 92] [] M M := v_frR
  unfold f_X12_fly_L143 at h
  obtain ⟨hb, h⟩ := v_ckS h
  obtain ⟨M1, eM1, h⟩ := v_ltM h
  have fM1 : v_fr [88, 92] [] M M1 := by rw [eM1]; exact v_frw (by simp) fM
  exact v_frT fM1 (hk56 _ _ _ _ h)
theorem fw_X12_fly_L115 {N : Nat} {x1 : Int32} {x3 : Int32} {x4 : Int32} {t0 : Int32} {t1 : Int32} {M : v_M} {out : Int32 × v_M} {k56 : Int32 → Int32 → Int32 → v_M → Option (Int32 × v_M)} (hk56 : ∀ (x1 : Int32) (x3 : Int32) (x4 : Int32) (M : v_M), k56 x1 x3 x4 M = some out → v_fr [88, 92] [] M out.2) (h : f_X12_fly_L115 N k56 x1 x3 x4 t0 t1 M = some out) : v_fr [88, 92] [] M out.2 := by
  have fM : v_fr [88, 92] [] M M := v_frR
  unfold f_X12_fly_L115 at h
  obtain ⟨y1, ey1, h⟩ := v_ltM h
  rcases v_iteS h with ⟨c, h⟩ | ⟨c, h⟩
  · exact v_frT fM (fw_X12_fly_L143 hk56 h)
  · exact v_frT fM (fw_X12_fly_L143 hk56 h)
theorem fv_X12_fly_L56 {N : Nat} {out : Int32 × v_M} (n : Nat) : ∀ (x1 : Int32) (x3 : Int32) (x4 : Int32) (M : v_M), f_X12_fly_L56 N n x1 x3 x4 M = some out → v_fr [88, 92] [] M out.2 := by
  induction n with
  | zero => intro x1 x3 x4 M h; rw [f_X12_fly_L56] at h; cases h
  | succ n ih =>
    intro x1 x3 x4 M h
    have fM : v_fr [88, 92] [] M M := v_frR
    rw [f_X12_fly_L56] at h
    rcases v_iteS h with ⟨c, h⟩ | ⟨c, h⟩
    · obtain ⟨hb, h⟩ := v_ckS h
      have h := Option.some.inj h
      subst h
      exact fM
    · obtain ⟨hb, h⟩ := v_ckS h
      obtain ⟨hb, h⟩ := v_ckS h
      rcases v_iteS h with ⟨c, h⟩ | ⟨c, h⟩
      · exact v_frT fM (fw_X12_fly_L115 ih h)
      · obtain ⟨hb, h⟩ := v_ckS h
        obtain ⟨hb, h⟩ := v_ckS h
        obtain ⟨hb, h⟩ := v_ckS h
        obtain ⟨hb, h⟩ := v_ckS h
        obtain ⟨hb, h⟩ := v_ckS h
        exact v_frT fM (fw_X12_fly_L115 ih h)
theorem fw_X12_fly_L56 {N n : Nat} {x1 : Int32} {x3 : Int32} {x4 : Int32} {M : v_M} {out : Int32 × v_M} (h : f_X12_fly_L56 N n x1 x3 x4 M = some out) : v_fr [88, 92] [] M out.2 := fv_X12_fly_L56 n x1 x3 x4 M h
theorem fw_X12_fly_L52 {N : Nat} {x1 : Int32} {x3 : Int32} {t0 : Int32} {t1 : Int32} {M : v_M} {out : Int32 × v_M} (h : f_X12_fly_L52 N x1 x3 t0 t1 M = some out) : v_fr [88, 92] [] M out.2 := by
  have fM : v_fr [88, 92] [] M M := v_frR
  unfold f_X12_fly_L52 at h
  obtain ⟨hb, h⟩ := v_ckS h
  obtain ⟨M1, eM1, h⟩ := v_ltM h
  have fM1 : v_fr [88, 92] [] M M1 := by rw [eM1]; exact v_frw (by simp) fM
  exact v_frT fM1 (fw_X12_fly_L56 h)
theorem fr_X12_fly {N : Nat} {x1 : Int32} {x2 : Int32} {M : v_M} {out : Int32 × v_M} (h : f_X12_fly N x1 x2 M = some out) : v_fr [88, 92] [] M out.2 := by
  have fM : v_fr [88, 92] [] M M := v_frR
  unfold f_X12_fly at h
  obtain ⟨z1, hz1, h⟩ := v_bdS h
  have fz1 : v_fr [88, 92] [] M z1.2 := v_frt (by simp) (by simp) fM (fr_X12_isMachine hz1)
  rcases v_iteS h with ⟨c, h⟩ | ⟨c, h⟩
  · have h := Option.some.inj h
    subst h
    exact fz1
  · obtain ⟨z2, hz2, h⟩ := v_bdS h
    have fz2 : v_fr [88, 92] [] M z2.2 := v_frt (by simp) (by simp) fz1 (fr_X12_in hz2)
    rcases v_iteS h with ⟨c, h⟩ | ⟨c, h⟩
    · have h := Option.some.inj h
      subst h
      exact fz2
    · obtain ⟨hb, h⟩ := v_ckS h
      obtain ⟨y3, ey3, h⟩ := v_ltM h
      rcases v_iteS h with ⟨c, h⟩ | ⟨c, h⟩
      · exact v_frT fz2 (fw_X12_fly_L52 h)
      · exact v_frT fz2 (fw_X12_fly_L52 h)
theorem fr_X12_behind {N : Nat} {l0 : Int64} {x2 : Int32} {M : v_M} {out : Int64 × v_M} (h : f_X12_behind N l0 x2 M = some out) : v_fr [] [] M out.2 := by
  have fM : v_fr [] [] M M := v_frR
  unfold f_X12_behind at h
  obtain ⟨hb, h⟩ := v_ckS h
  have h := Option.some.inj h
  subst h
  exact fM
theorem fr_X12_isChance {N : Nat} {x0 : Int32} {M : v_M} {out : Int32 × v_M} (h : f_X12_isChance N x0 M = some out) : v_fr [] [] M out.2 := by
  have fM : v_fr [] [] M M := v_frR
  unfold f_X12_isChance at h
  obtain ⟨z1, hz1, h⟩ := v_bdS h
  have fz1 : v_fr [] [] M z1.2 := v_frt (by simp) (by simp) fM (fr_X12_in hz1)
  obtain ⟨hb, h⟩ := v_ckS h
  have h := Option.some.inj h
  subst h
  exact fz1
theorem fv_X12_odds_L28 {N : Nat} {out : Int32 × v_M} (n : Nat) : ∀ (x1 : Int32) (x2 : Int32) (l3 : Int64) (x5 : Int32) (M : v_M), f_X12_odds_L28 N n x1 x2 l3 x5 M = some out → v_fr [] [] M out.2 := by
  induction n with
  | zero => intro x1 x2 l3 x5 M h; rw [f_X12_odds_L28] at h; cases h
  | succ n ih =>
    intro x1 x2 l3 x5 M h
    have fM : v_fr [] [] M M := v_frR
    rw [f_X12_odds_L28] at h
    rcases v_iteS h with ⟨c, h⟩ | ⟨c, h⟩
    · have h := Option.some.inj h
      subst h
      exact fM
    · obtain ⟨z1, hz1, h⟩ := v_bdS h
      have fz1 : v_fr [] [] M z1.2 := v_frt (by simp) (by simp) fM (fr_X12_behind hz1)
      obtain ⟨y2, ey2, h⟩ := v_ltM h
      exact v_frT fz1 (ih _ _ _ _ _ h)
theorem fw_X12_odds_L28 {N n : Nat} {x1 : Int32} {x2 : Int32} {l3 : Int64} {x5 : Int32} {M : v_M} {out : Int32 × v_M} (h : f_X12_odds_L28 N n x1 x2 l3 x5 M = some out) : v_fr [] [] M out.2 := fv_X12_odds_L28 n x1 x2 l3 x5 M h
theorem fr_X12_odds {N : Nat} {x1 : Int32} {x2 : Int32} {M : v_M} {out : Int32 × v_M} (h : f_X12_odds N x1 x2 M = some out) : v_fr [] [] M out.2 := by
  have fM : v_fr [] [] M M := v_frR
  unfold f_X12_odds at h
  obtain ⟨z1, hz1, h⟩ := v_bdS h
  have fz1 : v_fr [] [] M z1.2 := v_frt (by simp) (by simp) fM (fr_X12_isChance hz1)
  rcases v_iteS h with ⟨c, h⟩ | ⟨c, h⟩
  · have h := Option.some.inj h
    subst h
    exact fz1
  · obtain ⟨z2, hz2, h⟩ := v_bdS h
    have fz2 : v_fr [] [] M z2.2 := v_frt (by simp) (by simp) fz1 (fr_X12_in hz2)
    rcases v_iteS h with ⟨c, h⟩ | ⟨c, h⟩
    · have h := Option.some.inj h
      subst h
      exact fz2
    · exact v_frT fz2 (fw_X12_odds_L28 h)
theorem fv_X12_first_L46 {N : Nat} {out : Int32 × v_M} {k36 : Int32 → Int32 → Int32 → Int64 → Int32 → v_M → Option (Int32 × v_M)} (hk36 : ∀ (x1 : Int32) (x2 : Int32) (x3 : Int32) (l4 : Int64) (x6 : Int32) (M : v_M), k36 x1 x2 x3 l4 x6 M = some out → v_fr [] [] M out.2) (n : Nat) : ∀ (x1 : Int32) (x2 : Int32) (x3 : Int32) (l4 : Int64) (x6 : Int32) (x7 : Int32) (M : v_M), f_X12_first_L46 N k36 n x1 x2 x3 l4 x6 x7 M = some out → v_fr [] [] M out.2 := by
  induction n with
  | zero => intro x1 x2 x3 l4 x6 x7 M h; rw [f_X12_first_L46] at h; cases h
  | succ n ih =>
    intro x1 x2 x3 l4 x6 x7 M h
    have fM : v_fr [] [] M M := v_frR
    rw [f_X12_first_L46] at h
    rcases v_iteS h with ⟨c, h⟩ | ⟨c, h⟩
    · rcases v_iteS h with ⟨c, h⟩ | ⟨c, h⟩
      · exact v_frT fM (hk36 _ _ _ _ _ _ h)
      · have h := Option.some.inj h
        subst h
        exact fM
    · obtain ⟨z1, hz1, h⟩ := v_bdS h
      have fz1 : v_fr [] [] M z1.2 := v_frt (by simp) (by simp) fM (fr_X12_behind hz1)
      obtain ⟨y2, ey2, h⟩ := v_ltM h
      exact v_frT fz1 (ih _ _ _ _ _ _ _ h)
theorem fw_X12_first_L46 {N n : Nat} {x1 : Int32} {x2 : Int32} {x3 : Int32} {l4 : Int64} {x6 : Int32} {x7 : Int32} {M : v_M} {out : Int32 × v_M} {k36 : Int32 → Int32 → Int32 → Int64 → Int32 → v_M → Option (Int32 × v_M)} (hk36 : ∀ (x1 : Int32) (x2 : Int32) (x3 : Int32) (l4 : Int64) (x6 : Int32) (M : v_M), k36 x1 x2 x3 l4 x6 M = some out → v_fr [] [] M out.2) (h : f_X12_first_L46 N k36 n x1 x2 x3 l4 x6 x7 M = some out) : v_fr [] [] M out.2 := fv_X12_first_L46 hk36 n x1 x2 x3 l4 x6 x7 M h
theorem fv_X12_first_L36 {N : Nat} {out : Int32 × v_M} (n : Nat) : ∀ (x1 : Int32) (x2 : Int32) (x3 : Int32) (l4 : Int64) (x6 : Int32) (M : v_M), f_X12_first_L36 N n x1 x2 x3 l4 x6 M = some out → v_fr [] [] M out.2 := by
  induction n with
  | zero => intro x1 x2 x3 l4 x6 M h; rw [f_X12_first_L36] at h; cases h
  | succ n ih =>
    intro x1 x2 x3 l4 x6 M h
    have fM : v_fr [] [] M M := v_frR
    rw [f_X12_first_L36] at h
    rcases v_iteS h with ⟨c, h⟩ | ⟨c, h⟩
    · have h := Option.some.inj h
      subst h
      exact fM
    · exact v_frT fM (fw_X12_first_L46 ih h)
theorem fw_X12_first_L36 {N n : Nat} {x1 : Int32} {x2 : Int32} {x3 : Int32} {l4 : Int64} {x6 : Int32} {M : v_M} {out : Int32 × v_M} (h : f_X12_first_L36 N n x1 x2 x3 l4 x6 M = some out) : v_fr [] [] M out.2 := fv_X12_first_L36 n x1 x2 x3 l4 x6 M h
theorem fr_X12_first {N : Nat} {x1 : Int32} {x2 : Int32} {x3 : Int32} {M : v_M} {out : Int32 × v_M} (h : f_X12_first N x1 x2 x3 M = some out) : v_fr [] [] M out.2 := by
  have fM : v_fr [] [] M M := v_frR
  unfold f_X12_first at h
  obtain ⟨z1, hz1, h⟩ := v_bdS h
  have fz1 : v_fr [] [] M z1.2 := v_frt (by simp) (by simp) fM (fr_X12_isChance hz1)
  rcases v_iteS h with ⟨c, h⟩ | ⟨c, h⟩
  · have h := Option.some.inj h
    subst h
    exact fz1
  · obtain ⟨z2, hz2, h⟩ := v_bdS h
    have fz2 : v_fr [] [] M z2.2 := v_frt (by simp) (by simp) fz1 (fr_X12_in hz2)
    rcases v_iteS h with ⟨c, h⟩ | ⟨c, h⟩
    · have h := Option.some.inj h
      subst h
      exact fz2
    · obtain ⟨z3, hz3, h⟩ := v_bdS h
      have fz3 : v_fr [] [] M z3.2 := v_frt (by simp) (by simp) fz2 (fr_X12_isChance hz3)
      rcases v_iteS h with ⟨c, h⟩ | ⟨c, h⟩
      · have h := Option.some.inj h
        subst h
        exact fz3
      · exact v_frT fz3 (fw_X12_first_L36 h)
theorem fw_X12_carry_L42 {N : Nat} {r1 n1 : Nat} {x2 : Int32} {M : v_M} {out : Int32 × v_M} {k2 : Int32 → v_M → Option (Int32 × v_M)} (hk2 : ∀ (x2 : Int32) (M : v_M), k2 x2 M = some out → v_fr [145, r1] [(79, 91)] M out.2) (h : f_X12_carry_L42 N r1 n1 k2 x2 M = some out) : v_fr [145, r1] [(79, 91)] M out.2 := by
  have fM : v_fr [145, r1] [(79, 91)] M M := v_frR
  unfold f_X12_carry_L42 at h
  obtain ⟨M1, eM1, h⟩ := v_ltM h
  have fM1 : v_fr [145, r1] [(79, 91)] M M1 := by rw [eM1]; exact v_fro (by simp) fM
  exact v_frT fM1 (hk2 _ _ h)
theorem fv_X12_carry_L2 {N : Nat} {r1 n1 : Nat} {out : Int32 × v_M} (n : Nat) : ∀ (x2 : Int32) (M : v_M), f_X12_carry_L2 N r1 n1 n x2 M = some out → v_fr [145, r1] [(79, 91)] M out.2 := by
  induction n with
  | zero => intro x2 M h; rw [f_X12_carry_L2] at h; cases h
  | succ n ih =>
    intro x2 M h
    have fM : v_fr [145, r1] [(79, 91)] M M := v_frR
    rw [f_X12_carry_L2] at h
    rcases v_iteS h with ⟨c, h⟩ | ⟨c, h⟩
    · have h := Option.some.inj h
      subst h
      exact fM
    · rcases v_iteS h with ⟨c, h⟩ | ⟨c, h⟩
      · obtain ⟨hb, h⟩ := v_ckS h
        obtain ⟨hb, h⟩ := v_ckS h
        obtain ⟨M1, eM1, h⟩ := v_ltM h
        have fM1 : v_fr [145, r1] [(79, 91)] M M1 := by rw [eM1]; exact v_frw (by simp) fM
        exact v_frT fM1 (fw_X12_carry_L42 ih h)
      · obtain ⟨hb, h⟩ := v_ckS h
        obtain ⟨hb, h⟩ := v_ckS h
        obtain ⟨M2, eM2, h⟩ := v_ltM h
        have fM2 : v_fr [145, r1] [(79, 91)] M M2 := by rw [eM2]; exact v_frw (by simp) fM
        exact v_frT fM2 (fw_X12_carry_L42 ih h)
theorem fw_X12_carry_L2 {N n : Nat} {r1 n1 : Nat} {x2 : Int32} {M : v_M} {out : Int32 × v_M} (h : f_X12_carry_L2 N r1 n1 n x2 M = some out) : v_fr [145, r1] [(79, 91)] M out.2 := fv_X12_carry_L2 n x2 M h
theorem fr_X12_carry {N : Nat} {r1 n1 : Nat} {M : v_M} {out : Int32 × v_M} (h : f_X12_carry N r1 n1 M = some out) : v_fr [145, r1] [(79, 91)] M out.2 := by
  have fM : v_fr [145, r1] [(79, 91)] M M := v_frR
  unfold f_X12_carry at h
  exact v_frT fM (fw_X12_carry_L2 h)
theorem fr_X12_carries {N : Nat} {x1 : Int32} {M : v_M} {out : Int32 × v_M} (h : f_X12_carries N x1 M = some out) : v_fr [88, 89, 90, 91, 92, 93, 145] [(79, 91)] M out.2 := by
  have fM : v_fr [88, 89, 90, 91, 92, 93, 145] [(79, 91)] M M := v_frR
  unfold f_X12_carries at h
  obtain ⟨M1, eM1, h⟩ := v_ltM h
  have fM1 : v_fr [88, 89, 90, 91, 92, 93, 145] [(79, 91)] M M1 := by rw [eM1]; exact v_fro (by simp) fM
  obtain ⟨z2, hz2, h⟩ := v_bdS h
  have fz2 : v_fr [88, 89, 90, 91, 92, 93, 145] [(79, 91)] M z2.2 := v_frt (by simp) (by simp) fM1 (fr_X12_carry hz2)
  obtain ⟨z3, hz3, h⟩ := v_bdS h
  have fz3 : v_fr [88, 89, 90, 91, 92, 93, 145] [(79, 91)] M z3.2 := v_frt (by simp) (by simp) fz2 (fr_X12_carry hz3)
  obtain ⟨z4, hz4, h⟩ := v_bdS h
  have fz4 : v_fr [88, 89, 90, 91, 92, 93, 145] [(79, 91)] M z4.2 := v_frt (by simp) (by simp) fz3 (fr_X12_carry hz4)
  obtain ⟨z5, hz5, h⟩ := v_bdS h
  have fz5 : v_fr [88, 89, 90, 91, 92, 93, 145] [(79, 91)] M z5.2 := v_frt (by simp) (by simp) fz4 (fr_X12_carry hz5)
  obtain ⟨z6, hz6, h⟩ := v_bdS h
  have fz6 : v_fr [88, 89, 90, 91, 92, 93, 145] [(79, 91)] M z6.2 := v_frt (by simp) (by simp) fz5 (fr_X12_carry hz6)
  obtain ⟨z7, hz7, h⟩ := v_bdS h
  have fz7 : v_fr [88, 89, 90, 91, 92, 93, 145] [(79, 91)] M z7.2 := v_frt (by simp) (by simp) fz6 (fr_X12_carry hz7)
  have h := Option.some.inj h
  subst h
  exact fz7
theorem fr_X12_mark {N : Nat} {x1 : Int32} {M : v_M} {out : Int32 × v_M} (h : f_X12_mark N x1 M = some out) : v_fr [88, 89, 90, 91, 92, 93, 145, 146, 147, 148, 149] [(79, 91), (79, 92)] M out.2 := by
  have fM : v_fr [88, 89, 90, 91, 92, 93, 145, 146, 147, 148, 149] [(79, 91), (79, 92)] M M := v_frR
  unfold f_X12_mark at h
  obtain ⟨z1, hz1, h⟩ := v_bdS h
  have fz1 : v_fr [88, 89, 90, 91, 92, 93, 145, 146, 147, 148, 149] [(79, 91), (79, 92)] M z1.2 := v_frt (by simp) (by simp) fM (fr_X12_in hz1)
  rcases v_iteS h with ⟨c, h⟩ | ⟨c, h⟩
  · have h := Option.some.inj h
    subst h
    exact fz1
  · obtain ⟨hb, h⟩ := v_ckS h
    obtain ⟨M2, eM2, h⟩ := v_ltM h
    have fM2 : v_fr [88, 89, 90, 91, 92, 93, 145, 146, 147, 148, 149] [(79, 91), (79, 92)] M M2 := by rw [eM2]; exact v_frw (by simp) fz1
    obtain ⟨hb, h⟩ := v_ckS h
    obtain ⟨M3, eM3, h⟩ := v_ltM h
    have fM3 : v_fr [88, 89, 90, 91, 92, 93, 145, 146, 147, 148, 149] [(79, 91), (79, 92)] M M3 := by rw [eM3]; exact v_frw (by simp) fM2
    obtain ⟨hb, h⟩ := v_ckS h
    obtain ⟨M4, eM4, h⟩ := v_ltM h
    have fM4 : v_fr [88, 89, 90, 91, 92, 93, 145, 146, 147, 148, 149] [(79, 91), (79, 92)] M M4 := by rw [eM4]; exact v_frw (by simp) fM3
    obtain ⟨hb, h⟩ := v_ckS h
    obtain ⟨M5, eM5, h⟩ := v_ltM h
    have fM5 : v_fr [88, 89, 90, 91, 92, 93, 145, 146, 147, 148, 149] [(79, 91), (79, 92)] M M5 := by rw [eM5]; exact v_frw (by simp) fM4
    obtain ⟨hb, h⟩ := v_ckS h
    obtain ⟨M6, eM6, h⟩ := v_ltM h
    have fM6 : v_fr [88, 89, 90, 91, 92, 93, 145, 146, 147, 148, 149] [(79, 91), (79, 92)] M M6 := by rw [eM6]; exact v_fro (by simp) fM5
    obtain ⟨z7, hz7, h⟩ := v_bdS h
    have fz7 : v_fr [88, 89, 90, 91, 92, 93, 145, 146, 147, 148, 149] [(79, 91), (79, 92)] M z7.2 := v_frt (by simp) (by simp) fM6 (fr_X12_carries hz7)
    have h := Option.some.inj h
    subst h
    exact fz7
theorem fw_X12_forgets_L212 {N : Nat} {x2 : Int32} {t0 : Int32} {t1 : Int32} {M : v_M} {out : Int32 × v_M} {k176 : Int32 → v_M → Option (Int32 × v_M)} (hk176 : ∀ (x2 : Int32) (M : v_M), k176 x2 M = some out → v_fr [122, 123, 124, 125, 128, 129, 130, 131, 140] [(79, 60), (79, 61)] M out.2) (h : f_X12_forgets_L212 N k176 x2 t0 t1 M = some out) : v_fr [122, 123, 124, 125, 128, 129, 130, 131, 140] [(79, 60), (79, 61)] M out.2 := by
  have fM : v_fr [122, 123, 124, 125, 128, 129, 130, 131, 140] [(79, 60), (79, 61)] M M := v_frR
  unfold f_X12_forgets_L212 at h
  obtain ⟨hb, h⟩ := v_ckS h
  obtain ⟨M1, eM1, h⟩ := v_ltM h
  have fM1 : v_fr [122, 123, 124, 125, 128, 129, 130, 131, 140] [(79, 60), (79, 61)] M M1 := by rw [eM1]; exact v_frw (by simp) fM
  exact v_frT fM1 (hk176 _ _ h)
theorem fv_X12_forgets_L176 {N : Nat} {out : Int32 × v_M} (n : Nat) : ∀ (x2 : Int32) (M : v_M), f_X12_forgets_L176 N n x2 M = some out → v_fr [122, 123, 124, 125, 128, 129, 130, 131, 140] [(79, 60), (79, 61)] M out.2 := by
  induction n with
  | zero => intro x2 M h; rw [f_X12_forgets_L176] at h; cases h
  | succ n ih =>
    intro x2 M h
    have fM : v_fr [122, 123, 124, 125, 128, 129, 130, 131, 140] [(79, 60), (79, 61)] M M := v_frR
    rw [f_X12_forgets_L176] at h
    rcases v_iteS h with ⟨c, h⟩ | ⟨c, h⟩
    · have h := Option.some.inj h
      subst h
      exact fM
    · obtain ⟨hb, h⟩ := v_ckS h
      rcases v_iteS h with ⟨c, h⟩ | ⟨c, h⟩
      · exact v_frT fM (fw_X12_forgets_L212 ih h)
      · obtain ⟨hb, h⟩ := v_ckS h
        exact v_frT fM (fw_X12_forgets_L212 ih h)
theorem fw_X12_forgets_L176 {N n : Nat} {x2 : Int32} {M : v_M} {out : Int32 × v_M} (h : f_X12_forgets_L176 N n x2 M = some out) : v_fr [122, 123, 124, 125, 128, 129, 130, 131, 140] [(79, 60), (79, 61)] M out.2 := fv_X12_forgets_L176 n x2 M h
theorem fw_X12_forgets_L163 {N : Nat} {x1 : Int32} {x2 : Int32} {M : v_M} {out : Int32 × v_M} {k91 : Int32 → Int32 → v_M → Option (Int32 × v_M)} (hk91 : ∀ (x1 : Int32) (x2 : Int32) (M : v_M), k91 x1 x2 M = some out → v_fr [122, 123, 124, 125, 128, 129, 130, 131, 140] [(79, 60), (79, 61)] M out.2) (h : f_X12_forgets_L163 N k91 x1 x2 M = some out) : v_fr [122, 123, 124, 125, 128, 129, 130, 131, 140] [(79, 60), (79, 61)] M out.2 := by
  have fM : v_fr [122, 123, 124, 125, 128, 129, 130, 131, 140] [(79, 60), (79, 61)] M M := v_frR
  unfold f_X12_forgets_L163 at h
  exact v_frT fM (hk91 _ _ _ h)
theorem fv_X12_forgets_L91 {N : Nat} {out : Int32 × v_M} (n : Nat) : ∀ (x1 : Int32) (x2 : Int32) (M : v_M), f_X12_forgets_L91 N n x1 x2 M = some out → v_fr [122, 123, 124, 125, 128, 129, 130, 131, 140] [(79, 60), (79, 61)] M out.2 := by
  induction n with
  | zero => intro x1 x2 M h; rw [f_X12_forgets_L91] at h; cases h
  | succ n ih =>
    intro x1 x2 M h
    have fM : v_fr [122, 123, 124, 125, 128, 129, 130, 131, 140] [(79, 60), (79, 61)] M M := v_frR
    rw [f_X12_forgets_L91] at h
    rcases v_iteS h with ⟨c, h⟩ | ⟨c, h⟩
    · obtain ⟨M1, eM1, h⟩ := v_ltM h
      have fM1 : v_fr [122, 123, 124, 125, 128, 129, 130, 131, 140] [(79, 60), (79, 61)] M M1 := by rw [eM1]; exact v_fro (by simp) fM
      exact v_frT fM1 (fw_X12_forgets_L176 h)
    · obtain ⟨hb, h⟩ := v_ckS h
      rcases v_iteS h with ⟨c, h⟩ | ⟨c, h⟩
      · exact v_frT fM (fw_X12_forgets_L163 ih h)
      · obtain ⟨hb, h⟩ := v_ckS h
        obtain ⟨hb, h⟩ := v_ckS h
        obtain ⟨M2, eM2, h⟩ := v_ltM h
        have fM2 : v_fr [122, 123, 124, 125, 128, 129, 130, 131, 140] [(79, 60), (79, 61)] M M2 := by rw [eM2]; exact v_frw (by simp) fM
        obtain ⟨hb, h⟩ := v_ckS h
        obtain ⟨hb, h⟩ := v_ckS h
        obtain ⟨M3, eM3, h⟩ := v_ltM h
        have fM3 : v_fr [122, 123, 124, 125, 128, 129, 130, 131, 140] [(79, 60), (79, 61)] M M3 := by rw [eM3]; exact v_frw (by simp) fM2
        obtain ⟨hb, h⟩ := v_ckS h
        obtain ⟨hb, h⟩ := v_ckS h
        obtain ⟨M4, eM4, h⟩ := v_ltM h
        have fM4 : v_fr [122, 123, 124, 125, 128, 129, 130, 131, 140] [(79, 60), (79, 61)] M M4 := by rw [eM4]; exact v_frw (by simp) fM3
        obtain ⟨hb, h⟩ := v_ckS h
        obtain ⟨hb, h⟩ := v_ckS h
        obtain ⟨M5, eM5, h⟩ := v_ltM h
        have fM5 : v_fr [122, 123, 124, 125, 128, 129, 130, 131, 140] [(79, 60), (79, 61)] M M5 := by rw [eM5]; exact v_frw (by simp) fM4
        exact v_frT fM5 (fw_X12_forgets_L163 ih h)
theorem fw_X12_forgets_L91 {N n : Nat} {x1 : Int32} {x2 : Int32} {M : v_M} {out : Int32 × v_M} (h : f_X12_forgets_L91 N n x1 x2 M = some out) : v_fr [122, 123, 124, 125, 128, 129, 130, 131, 140] [(79, 60), (79, 61)] M out.2 := fv_X12_forgets_L91 n x1 x2 M h
theorem fw_X12_forgets_L76 {N : Nat} {x1 : Int32} {x2 : Int32} {M : v_M} {out : Int32 × v_M} {k4 : Int32 → Int32 → v_M → Option (Int32 × v_M)} (hk4 : ∀ (x1 : Int32) (x2 : Int32) (M : v_M), k4 x1 x2 M = some out → v_fr [122, 123, 124, 125, 128, 129, 130, 131, 140] [(79, 60), (79, 61)] M out.2) (h : f_X12_forgets_L76 N k4 x1 x2 M = some out) : v_fr [122, 123, 124, 125, 128, 129, 130, 131, 140] [(79, 60), (79, 61)] M out.2 := by
  have fM : v_fr [122, 123, 124, 125, 128, 129, 130, 131, 140] [(79, 60), (79, 61)] M M := v_frR
  unfold f_X12_forgets_L76 at h
  exact v_frT fM (hk4 _ _ _ h)
theorem fv_X12_forgets_L4 {N : Nat} {out : Int32 × v_M} (n : Nat) : ∀ (x1 : Int32) (x2 : Int32) (M : v_M), f_X12_forgets_L4 N n x1 x2 M = some out → v_fr [122, 123, 124, 125, 128, 129, 130, 131, 140] [(79, 60), (79, 61)] M out.2 := by
  induction n with
  | zero => intro x1 x2 M h; rw [f_X12_forgets_L4] at h; cases h
  | succ n ih =>
    intro x1 x2 M h
    have fM : v_fr [122, 123, 124, 125, 128, 129, 130, 131, 140] [(79, 60), (79, 61)] M M := v_frR
    rw [f_X12_forgets_L4] at h
    rcases v_iteS h with ⟨c, h⟩ | ⟨c, h⟩
    · obtain ⟨M1, eM1, h⟩ := v_ltM h
      have fM1 : v_fr [122, 123, 124, 125, 128, 129, 130, 131, 140] [(79, 60), (79, 61)] M M1 := by rw [eM1]; exact v_fro (by simp) fM
      exact v_frT fM1 (fw_X12_forgets_L91 h)
    · obtain ⟨hb, h⟩ := v_ckS h
      rcases v_iteS h with ⟨c, h⟩ | ⟨c, h⟩
      · exact v_frT fM (fw_X12_forgets_L76 ih h)
      · obtain ⟨hb, h⟩ := v_ckS h
        obtain ⟨hb, h⟩ := v_ckS h
        obtain ⟨M2, eM2, h⟩ := v_ltM h
        have fM2 : v_fr [122, 123, 124, 125, 128, 129, 130, 131, 140] [(79, 60), (79, 61)] M M2 := by rw [eM2]; exact v_frw (by simp) fM
        obtain ⟨hb, h⟩ := v_ckS h
        obtain ⟨hb, h⟩ := v_ckS h
        obtain ⟨M3, eM3, h⟩ := v_ltM h
        have fM3 : v_fr [122, 123, 124, 125, 128, 129, 130, 131, 140] [(79, 60), (79, 61)] M M3 := by rw [eM3]; exact v_frw (by simp) fM2
        obtain ⟨hb, h⟩ := v_ckS h
        obtain ⟨hb, h⟩ := v_ckS h
        obtain ⟨M4, eM4, h⟩ := v_ltM h
        have fM4 : v_fr [122, 123, 124, 125, 128, 129, 130, 131, 140] [(79, 60), (79, 61)] M M4 := by rw [eM4]; exact v_frw (by simp) fM3
        obtain ⟨hb, h⟩ := v_ckS h
        obtain ⟨hb, h⟩ := v_ckS h
        obtain ⟨M5, eM5, h⟩ := v_ltM h
        have fM5 : v_fr [122, 123, 124, 125, 128, 129, 130, 131, 140] [(79, 60), (79, 61)] M M5 := by rw [eM5]; exact v_frw (by simp) fM4
        exact v_frT fM5 (fw_X12_forgets_L76 ih h)
theorem fw_X12_forgets_L4 {N n : Nat} {x1 : Int32} {x2 : Int32} {M : v_M} {out : Int32 × v_M} (h : f_X12_forgets_L4 N n x1 x2 M = some out) : v_fr [122, 123, 124, 125, 128, 129, 130, 131, 140] [(79, 60), (79, 61)] M out.2 := fv_X12_forgets_L4 n x1 x2 M h
theorem fr_X12_forgets {N : Nat} {M : v_M} {out : Int32 × v_M} (h : f_X12_forgets N M = some out) : v_fr [122, 123, 124, 125, 128, 129, 130, 131, 140] [(79, 60), (79, 61)] M out.2 := by
  have fM : v_fr [122, 123, 124, 125, 128, 129, 130, 131, 140] [(79, 60), (79, 61)] M M := v_frR
  unfold f_X12_forgets at h
  exact v_frT fM (fw_X12_forgets_L4 h)
theorem fr_X12_count {N : Nat} {x1 : Int32} {M : v_M} {out : Int32 × v_M} (h : f_X12_count N x1 M = some out) : v_fr [] [] M out.2 := by
  have fM : v_fr [] [] M M := v_frR
  unfold f_X12_count at h
  by_cases c0 : x1 = (0 : Int32)
  · rw [if_pos c0] at h
    have h := Option.some.inj h
    subst h
    exact fM
  · rw [if_neg c0] at h
    by_cases c1 : x1 = (1 : Int32)
    · rw [if_pos c1] at h
      have h := Option.some.inj h
      subst h
      exact fM
    · rw [if_neg c1] at h
      by_cases c2 : x1 = (2 : Int32)
      · rw [if_pos c2] at h
        have h := Option.some.inj h
        subst h
        exact fM
      · rw [if_neg c2] at h
        by_cases c3 : x1 = (3 : Int32)
        · rw [if_pos c3] at h
          have h := Option.some.inj h
          subst h
          exact fM
        · rw [if_neg c3] at h
          by_cases c4 : x1 = (4 : Int32)
          · rw [if_pos c4] at h
            have h := Option.some.inj h
            subst h
            exact fM
          · rw [if_neg c4] at h
            by_cases c5 : x1 = (5 : Int32)
            · rw [if_pos c5] at h
              have h := Option.some.inj h
              subst h
              exact fM
            · rw [if_neg c5] at h
              by_cases c6 : x1 = (6 : Int32)
              · rw [if_pos c6] at h
                have h := Option.some.inj h
                subst h
                exact fM
              · rw [if_neg c6] at h
                by_cases c7 : x1 = (7 : Int32)
                · rw [if_pos c7] at h
                  have h := Option.some.inj h
                  subst h
                  exact fM
                · rw [if_neg c7] at h
                  by_cases c8 : x1 = (8 : Int32)
                  · rw [if_pos c8] at h
                    have h := Option.some.inj h
                    subst h
                    exact fM
                  · rw [if_neg c8] at h
                    have h := Option.some.inj h
                    subst h
                    exact fM
theorem fr_J6_bitCount_0f7a4 {N : Nat} {x0 : Int32} {M : v_M} {out : Int32 × v_M} (h : f_J6_bitCount_0f7a4 N x0 M = some out) : v_fr [] [] M out.2 := by
  have fM : v_fr [] [] M M := v_frR
  unfold f_J6_bitCount_0f7a4 at h
  obtain ⟨y1, ey1, h⟩ := v_ltM h
  obtain ⟨y2, ey2, h⟩ := v_ltM h
  obtain ⟨y3, ey3, h⟩ := v_ltM h
  obtain ⟨y4, ey4, h⟩ := v_ltM h
  obtain ⟨y5, ey5, h⟩ := v_ltM h
  have h := Option.some.inj h
  subst h
  exact fM
theorem fr_J7_rangeCheck_23922 {N : Nat} {x0 : Int32} {x1 : Int32} {x2 : Int32} {M : v_M} {out : Int32 × v_M} (h : f_J7_rangeCheck_23922 N x0 x1 x2 M = some out) : v_fr [] [] M out.2 := by
  have fM : v_fr [] [] M M := v_frR
  unfold f_J7_rangeCheck_23922 at h
  rcases v_iteS h with ⟨c, h⟩ | ⟨c, h⟩
  · rcases v_iteS h with ⟨c, h⟩ | ⟨c, h⟩
    · rcases v_iteS h with ⟨c, h⟩ | ⟨c, h⟩
      · have h := Option.some.inj h
        subst h
        exact fM
      · cases h
    · cases h
  · cases h
theorem fv_J7_fill_53178_L5 {N : Nat} {r0 n0 : Nat} {out : Int32 × v_M} (n : Nat) : ∀ (x1 : Int32) (x2 : Int32) (x3 : Int32) (M : v_M), f_J7_fill_53178_L5 N r0 n0 n x1 x2 x3 M = some out → v_fr [r0] [] M out.2 := by
  induction n with
  | zero => intro x1 x2 x3 M h; rw [f_J7_fill_53178_L5] at h; cases h
  | succ n ih =>
    intro x1 x2 x3 M h
    have fM : v_fr [r0] [] M M := v_frR
    rw [f_J7_fill_53178_L5] at h
    rcases v_iteS h with ⟨c, h⟩ | ⟨c, h⟩
    · have h := Option.some.inj h
      subst h
      exact fM
    · obtain ⟨hb, h⟩ := v_ckS h
      obtain ⟨M1, eM1, h⟩ := v_ltM h
      have fM1 : v_fr [r0] [] M M1 := by rw [eM1]; exact v_frw (by simp) fM
      exact v_frT fM1 (ih _ _ _ _ h)
theorem fw_J7_fill_53178_L5 {N n : Nat} {r0 n0 : Nat} {x1 : Int32} {x2 : Int32} {x3 : Int32} {M : v_M} {out : Int32 × v_M} (h : f_J7_fill_53178_L5 N r0 n0 n x1 x2 x3 M = some out) : v_fr [r0] [] M out.2 := fv_J7_fill_53178_L5 n x1 x2 x3 M h
theorem fr_J7_fill_53178 {N : Nat} {r0 n0 : Nat} {x1 : Int32} {M : v_M} {out : Int32 × v_M} (h : f_J7_fill_53178 N r0 n0 x1 M = some out) : v_fr [r0] [] M out.2 := by
  have fM : v_fr [r0] [] M M := v_frR
  unfold f_J7_fill_53178 at h
  obtain ⟨y1, ey1, h⟩ := v_ltM h
  exact v_frT fM (fw_J7_fill_53178_L5 h)
theorem fv_J7_fill_fda19_L10 {N : Nat} {r0 n0 : Nat} {out : Int32 × v_M} (n : Nat) : ∀ (x2 : Int32) (x3 : Int32) (x4 : Int32) (M : v_M), f_J7_fill_fda19_L10 N r0 n0 n x2 x3 x4 M = some out → v_fr [r0] [] M out.2 := by
  induction n with
  | zero => intro x2 x3 x4 M h; rw [f_J7_fill_fda19_L10] at h; cases h
  | succ n ih =>
    intro x2 x3 x4 M h
    have fM : v_fr [r0] [] M M := v_frR
    rw [f_J7_fill_fda19_L10] at h
    rcases v_iteS h with ⟨c, h⟩ | ⟨c, h⟩
    · have h := Option.some.inj h
      subst h
      exact fM
    · obtain ⟨hb, h⟩ := v_ckS h
      obtain ⟨M1, eM1, h⟩ := v_ltM h
      have fM1 : v_fr [r0] [] M M1 := by rw [eM1]; exact v_frw (by simp) fM
      exact v_frT fM1 (ih _ _ _ _ h)
theorem fw_J7_fill_fda19_L10 {N n : Nat} {r0 n0 : Nat} {x2 : Int32} {x3 : Int32} {x4 : Int32} {M : v_M} {out : Int32 × v_M} (h : f_J7_fill_fda19_L10 N r0 n0 n x2 x3 x4 M = some out) : v_fr [r0] [] M out.2 := fv_J7_fill_fda19_L10 n x2 x3 x4 M h
theorem fr_J7_fill_fda19 {N : Nat} {r0 n0 : Nat} {x1 : Int32} {x2 : Int32} {x3 : Int32} {M : v_M} {out : Int32 × v_M} (h : f_J7_fill_fda19 N r0 n0 x1 x2 x3 M = some out) : v_fr [r0] [] M out.2 := by
  have fM : v_fr [r0] [] M M := v_frR
  unfold f_J7_fill_fda19 at h
  obtain ⟨z1, hz1, h⟩ := v_bdS h
  have fz1 : v_fr [r0] [] M z1.2 := v_frt (by simp) (by simp) fM (fr_J7_rangeCheck_23922 hz1)
  exact v_frT fz1 (fw_J7_fill_fda19_L10 h)
theorem fr_X0_begin {N : Nat} {x1 : Int32} {x2 : Int32} {x3 : Int32} {M : v_M} {out : Int32 × v_M} (h : f_X0_begin N x1 x2 x3 M = some out) : v_fr [50] [(49, 0), (49, 1), (49, 2), (49, 3), (49, 4), (49, 5)] M out.2 := by
  have fM : v_fr [50] [(49, 0), (49, 1), (49, 2), (49, 3), (49, 4), (49, 5)] M M := v_frR
  unfold f_X0_begin at h
  obtain ⟨M1, eM1, h⟩ := v_ltM h
  have fM1 : v_fr [50] [(49, 0), (49, 1), (49, 2), (49, 3), (49, 4), (49, 5)] M M1 := by rw [eM1]; exact v_fro (by simp) fM
  obtain ⟨M2, eM2, h⟩ := v_ltM h
  have fM2 : v_fr [50] [(49, 0), (49, 1), (49, 2), (49, 3), (49, 4), (49, 5)] M M2 := by rw [eM2]; exact v_fro (by simp) fM1
  obtain ⟨M3, eM3, h⟩ := v_ltM h
  have fM3 : v_fr [50] [(49, 0), (49, 1), (49, 2), (49, 3), (49, 4), (49, 5)] M M3 := by rw [eM3]; exact v_fro (by simp) fM2
  obtain ⟨hb, h⟩ := v_ckS h
  obtain ⟨M4, eM4, h⟩ := v_ltM h
  have fM4 : v_fr [50] [(49, 0), (49, 1), (49, 2), (49, 3), (49, 4), (49, 5)] M M4 := by rw [eM4]; exact v_fro (by simp) fM3
  obtain ⟨M5, eM5, h⟩ := v_ltM h
  have fM5 : v_fr [50] [(49, 0), (49, 1), (49, 2), (49, 3), (49, 4), (49, 5)] M M5 := by rw [eM5]; exact v_fro (by simp) fM4
  obtain ⟨M6, eM6, h⟩ := v_ltM h
  have fM6 : v_fr [50] [(49, 0), (49, 1), (49, 2), (49, 3), (49, 4), (49, 5)] M M6 := by rw [eM6]; exact v_fro (by simp) fM5
  obtain ⟨hb, h⟩ := v_ckS h
  obtain ⟨M7, eM7, h⟩ := v_ltM h
  have fM7 : v_fr [50] [(49, 0), (49, 1), (49, 2), (49, 3), (49, 4), (49, 5)] M M7 := by rw [eM7]; exact v_frw (by simp) fM6
  obtain ⟨hb, h⟩ := v_ckS h
  obtain ⟨M8, eM8, h⟩ := v_ltM h
  have fM8 : v_fr [50] [(49, 0), (49, 1), (49, 2), (49, 3), (49, 4), (49, 5)] M M8 := by rw [eM8]; exact v_frw (by simp) fM7
  obtain ⟨z9, hz9, h⟩ := v_bdS h
  have fz9 : v_fr [50] [(49, 0), (49, 1), (49, 2), (49, 3), (49, 4), (49, 5)] M z9.2 := v_frt (by simp) (by simp) fM8 (fr_J6_bitCount_0f7a4 hz9)
  obtain ⟨hb, h⟩ := v_ckS h
  obtain ⟨M10, eM10, h⟩ := v_ltM h
  have fM10 : v_fr [50] [(49, 0), (49, 1), (49, 2), (49, 3), (49, 4), (49, 5)] M M10 := by rw [eM10]; exact v_frw (by simp) fz9
  have h := Option.some.inj h
  subst h
  exact fM10
theorem fr_X0_joined {N : Nat} {x0 : Int32} {x1 : Int32} {x2 : Int32} {M : v_M} {out : Int32 × v_M} (h : f_X0_joined N x0 x1 x2 M = some out) : v_fr [] [] M out.2 := by
  have fM : v_fr [] [] M M := v_frR
  unfold f_X0_joined at h
  by_cases cm16 : x0 = (-16 : Int32)
  · rw [if_pos cm16] at h
    have h := Option.some.inj h
    subst h
    exact fM
  · rw [if_neg cm16] at h
    by_cases cm15 : x0 = (-15 : Int32)
    · rw [if_pos cm15] at h
      rcases v_iteS h with ⟨c, h⟩ | ⟨c, h⟩
      · obtain ⟨z1, hz1, h⟩ := v_bdS h
        have fz1 : v_fr [] [] M z1.2 := v_frt (by simp) (by simp) fM (fr_X11_asNumber hz1)
        have h := Option.some.inj h
        subst h
        exact fz1
      · obtain ⟨z2, hz2, h⟩ := v_bdS h
        have fz2 : v_fr [] [] M z2.2 := v_frt (by simp) (by simp) fM (fr_X11_asNumber hz2)
        have h := Option.some.inj h
        subst h
        exact fz2
    · rw [if_neg cm15] at h
      by_cases cm14 : x0 = (-14 : Int32)
      · rw [if_pos cm14] at h
        rcases v_iteS h with ⟨c, h⟩ | ⟨c, h⟩
        · obtain ⟨z3, hz3, h⟩ := v_bdS h
          have fz3 : v_fr [] [] M z3.2 := v_frt (by simp) (by simp) fM (fr_X11_asNumber hz3)
          have h := Option.some.inj h
          subst h
          exact fz3
        · obtain ⟨z4, hz4, h⟩ := v_bdS h
          have fz4 : v_fr [] [] M z4.2 := v_frt (by simp) (by simp) fM (fr_X11_asNumber hz4)
          have h := Option.some.inj h
          subst h
          exact fz4
      · rw [if_neg cm14] at h
        by_cases cm13 : x0 = (-13 : Int32)
        · rw [if_pos cm13] at h
          rcases v_iteS h with ⟨c, h⟩ | ⟨c, h⟩
          · obtain ⟨z6, hz6, h⟩ := v_bdS h
            have fz6 : v_fr [] [] M z6.2 := v_frt (by simp) (by simp) fM (fr_X11_asNumber hz6)
            have h := Option.some.inj h
            subst h
            exact fz6
          · obtain ⟨z5, hz5, h⟩ := v_bdS h
            have fz5 : v_fr [] [] M z5.2 := v_frt (by simp) (by simp) fM (fr_X11_asNumber hz5)
            have h := Option.some.inj h
            subst h
            exact fz5
        · rw [if_neg cm13] at h
          by_cases cm12 : x0 = (-12 : Int32)
          · rw [if_pos cm12] at h
            rcases v_iteS h with ⟨c, h⟩ | ⟨c, h⟩
            · obtain ⟨z7, hz7, h⟩ := v_bdS h
              have fz7 : v_fr [] [] M z7.2 := v_frt (by simp) (by simp) fM (fr_X11_asNumber hz7)
              have h := Option.some.inj h
              subst h
              exact fz7
            · obtain ⟨z8, hz8, h⟩ := v_bdS h
              have fz8 : v_fr [] [] M z8.2 := v_frt (by simp) (by simp) fM (fr_X11_asNumber hz8)
              have h := Option.some.inj h
              subst h
              exact fz8
          · rw [if_neg cm12] at h
            by_cases cm11 : x0 = (-11 : Int32)
            · rw [if_pos cm11] at h
              rcases v_iteS h with ⟨c, h⟩ | ⟨c, h⟩
              · obtain ⟨z9, hz9, h⟩ := v_bdS h
                have fz9 : v_fr [] [] M z9.2 := v_frt (by simp) (by simp) fM (fr_X11_asNumber hz9)
                have h := Option.some.inj h
                subst h
                exact fz9
              · obtain ⟨z10, hz10, h⟩ := v_bdS h
                have fz10 : v_fr [] [] M z10.2 := v_frt (by simp) (by simp) fM (fr_X11_asNumber hz10)
                have h := Option.some.inj h
                subst h
                exact fz10
            · rw [if_neg cm11] at h
              by_cases cm10 : x0 = (-10 : Int32)
              · rw [if_pos cm10] at h
                have h := Option.some.inj h
                subst h
                exact fM
              · rw [if_neg cm10] at h
                by_cases cm9 : x0 = (-9 : Int32)
                · rw [if_pos cm9] at h
                  have h := Option.some.inj h
                  subst h
                  exact fM
                · rw [if_neg cm9] at h
                  have h := Option.some.inj h
                  subst h
                  exact fM
theorem fr_X1_isCheaper {N : Nat} {x1 : Int32} {x2 : Int32} {M : v_M} {out : Int32 × v_M} (h : f_X1_isCheaper N x1 x2 M = some out) : v_fr [] [] M out.2 := by
  have fM : v_fr [] [] M M := v_frR
  unfold f_X1_isCheaper at h
  obtain ⟨z1, hz1, h⟩ := v_bdS h
  have fz1 : v_fr [] [] M z1.2 := v_frt (by simp) (by simp) fM (fr_X1_coinsOf hz1)
  obtain ⟨y2, ey2, h⟩ := v_ltM h
  obtain ⟨z3, hz3, h⟩ := v_bdS h
  have fz3 : v_fr [] [] M z3.2 := v_frt (by simp) (by simp) fz1 (fr_X1_coinsOf hz3)
  obtain ⟨y4, ey4, h⟩ := v_ltM h
  rcases v_iteS h with ⟨c, h⟩ | ⟨c, h⟩
  · obtain ⟨z5, hz5, h⟩ := v_bdS h
    have fz5 : v_fr [] [] M z5.2 := v_frt (by simp) (by simp) fz3 (fr_J6_bitCount_0f7a4 hz5)
    obtain ⟨y6, ey6, h⟩ := v_ltM h
    obtain ⟨z7, hz7, h⟩ := v_bdS h
    have fz7 : v_fr [] [] M z7.2 := v_frt (by simp) (by simp) fz5 (fr_J6_bitCount_0f7a4 hz7)
    obtain ⟨y8, ey8, h⟩ := v_ltM h
    rcases v_iteS h with ⟨c, h⟩ | ⟨c, h⟩
    · obtain ⟨hb, h⟩ := v_ckS h
      have h := Option.some.inj h
      subst h
      exact fz7
    · rcases v_iteS h with ⟨c, h⟩ | ⟨c, h⟩
      · rcases v_iteS h with ⟨c, h⟩ | ⟨c, h⟩
        · obtain ⟨hb, h⟩ := v_ckS h
          have h := Option.some.inj h
          subst h
          exact fz7
        · obtain ⟨hb, h⟩ := v_ckS h
          have h := Option.some.inj h
          subst h
          exact fz7
      · obtain ⟨hb, h⟩ := v_ckS h
        have h := Option.some.inj h
        subst h
        exact fz7
  · rcases v_iteS h with ⟨c, h⟩ | ⟨c, h⟩
    · obtain ⟨hb, h⟩ := v_ckS h
      have h := Option.some.inj h
      subst h
      exact fz3
    · obtain ⟨hb, h⟩ := v_ckS h
      have h := Option.some.inj h
      subst h
      exact fz3
theorem fw_X1_applyTo_L95 {N : Nat} {x2 : Int32} {x3 : Int32} {M : v_M} {out : Int32 × v_M} {k2 : Int32 → Int32 → v_M → Option (Int32 × v_M)} (hk2 : ∀ (x2 : Int32) (x3 : Int32) (M : v_M), k2 x2 x3 M = some out → v_fr [19, 20, 21] [] M out.2) (h : f_X1_applyTo_L95 N k2 x2 x3 M = some out) : v_fr [19, 20, 21] [] M out.2 := by
  have fM : v_fr [19, 20, 21] [] M M := v_frR
  unfold f_X1_applyTo_L95 at h
  exact v_frT fM (hk2 _ _ _ h)
theorem fv_X1_applyTo_L2 {N : Nat} {out : Int32 × v_M} (n : Nat) : ∀ (x2 : Int32) (x3 : Int32) (M : v_M), f_X1_applyTo_L2 N n x2 x3 M = some out → v_fr [19, 20, 21] [] M out.2 := by
  induction n with
  | zero => intro x2 x3 M h; rw [f_X1_applyTo_L2] at h; cases h
  | succ n ih =>
    intro x2 x3 M h
    have fM : v_fr [19, 20, 21] [] M M := v_frR
    rw [f_X1_applyTo_L2] at h
    rcases v_iteS h with ⟨c, h⟩ | ⟨c, h⟩
    · have h := Option.some.inj h
      subst h
      exact fM
    · obtain ⟨hb, h⟩ := v_ckS h
      obtain ⟨y1, ey1, h⟩ := v_ltM h
      rcases v_iteS h with ⟨c, h⟩ | ⟨c, h⟩
      · obtain ⟨z2, hz2, h⟩ := v_bdS h
        have fz2 : v_fr [19, 20, 21] [] M z2.2 := v_frt (by simp) (by simp) fM (fr_X11_within hz2)
        rcases v_iteS h with ⟨c, h⟩ | ⟨c, h⟩
        · exact v_frT fz2 (fw_X1_applyTo_L95 ih h)
        · obtain ⟨hb, h⟩ := v_ckS h
          obtain ⟨hb, h⟩ := v_ckS h
          obtain ⟨hb, h⟩ := v_ckS h
          obtain ⟨M3, eM3, h⟩ := v_ltM h
          have fM3 : v_fr [19, 20, 21] [] M M3 := by rw [eM3]; exact v_frw (by simp) fz2
          obtain ⟨hb, h⟩ := v_ckS h
          obtain ⟨hb, h⟩ := v_ckS h
          obtain ⟨hb, h⟩ := v_ckS h
          obtain ⟨M4, eM4, h⟩ := v_ltM h
          have fM4 : v_fr [19, 20, 21] [] M M4 := by rw [eM4]; exact v_frw (by simp) fM3
          obtain ⟨hb, h⟩ := v_ckS h
          obtain ⟨hb, h⟩ := v_ckS h
          obtain ⟨hb, h⟩ := v_ckS h
          obtain ⟨M5, eM5, h⟩ := v_ltM h
          have fM5 : v_fr [19, 20, 21] [] M M5 := by rw [eM5]; exact v_frw (by simp) fM4
          exact v_frT fM5 (fw_X1_applyTo_L95 ih h)
      · exact v_frT fM (fw_X1_applyTo_L95 ih h)
theorem fw_X1_applyTo_L2 {N n : Nat} {x2 : Int32} {x3 : Int32} {M : v_M} {out : Int32 × v_M} (h : f_X1_applyTo_L2 N n x2 x3 M = some out) : v_fr [19, 20, 21] [] M out.2 := fv_X1_applyTo_L2 n x2 x3 M h
theorem fr_X1_applyTo {N : Nat} {x2 : Int32} {M : v_M} {out : Int32 × v_M} (h : f_X1_applyTo N x2 M = some out) : v_fr [19, 20, 21] [] M out.2 := by
  have fM : v_fr [19, 20, 21] [] M M := v_frR
  unfold f_X1_applyTo at h
  exact v_frT fM (fw_X1_applyTo_L2 h)
theorem fr_X2_load {N : Nat} {q2 : Nat} {x3 : Int32} {M : v_M} {out : Int32 × v_M} (h : f_X2_load N q2 x3 M = some out) : v_fr [19, 20, 21, 22, 23, 24, 25] [] M out.2 := by
  have fM : v_fr [19, 20, 21, 22, 23, 24, 25] [] M M := v_frR
  unfold f_X2_load at h
  obtain ⟨z1, hz1, h⟩ := v_bdS h
  have fz1 : v_fr [19, 20, 21, 22, 23, 24, 25] [] M z1.2 := v_frt (by simp) (by simp) fM (fr_X11_within hz1)
  rcases v_iteS h with ⟨c, h⟩ | ⟨c, h⟩
  · have h := Option.some.inj h
    subst h
    exact fz1
  · obtain ⟨z2, hz2, h⟩ := v_bdS h
    have fz2 : v_fr [19, 20, 21, 22, 23, 24, 25] [] M z2.2 := v_frt (by simp) (by simp) fz1 (fr_X4_spot hz2)
    obtain ⟨y3, ey3, h⟩ := v_ltM h
    obtain ⟨hb, h⟩ := v_ckS h
    obtain ⟨M4, eM4, h⟩ := v_ltM h
    have fM4 : v_fr [19, 20, 21, 22, 23, 24, 25] [] M M4 := by rw [eM4]; exact v_frr (by simp) fz2
    obtain ⟨hb, h⟩ := v_ckS h
    obtain ⟨M5, eM5, h⟩ := v_ltM h
    have fM5 : v_fr [19, 20, 21, 22, 23, 24, 25] [] M M5 := by rw [eM5]; exact v_frr (by simp) fM4
    obtain ⟨hb, h⟩ := v_ckS h
    obtain ⟨M6, eM6, h⟩ := v_ltM h
    have fM6 : v_fr [19, 20, 21, 22, 23, 24, 25] [] M M6 := by rw [eM6]; exact v_frr (by simp) fM5
    obtain ⟨hb, h⟩ := v_ckS h
    obtain ⟨M7, eM7, h⟩ := v_ltM h
    have fM7 : v_fr [19, 20, 21, 22, 23, 24, 25] [] M M7 := by rw [eM7]; exact v_frr (by simp) fM6
    obtain ⟨hb, h⟩ := v_ckS h
    obtain ⟨M8, eM8, h⟩ := v_ltM h
    have fM8 : v_fr [19, 20, 21, 22, 23, 24, 25] [] M M8 := by rw [eM8]; exact v_frr (by simp) fM7
    obtain ⟨hb, h⟩ := v_ckS h
    obtain ⟨M9, eM9, h⟩ := v_ltM h
    have fM9 : v_fr [19, 20, 21, 22, 23, 24, 25] [] M M9 := by rw [eM9]; exact v_frr (by simp) fM8
    obtain ⟨hb, h⟩ := v_ckS h
    obtain ⟨M10, eM10, h⟩ := v_ltM h
    have fM10 : v_fr [19, 20, 21, 22, 23, 24, 25] [] M M10 := by rw [eM10]; exact v_frr (by simp) fM9
    have h := Option.some.inj h
    subst h
    exact fM10
theorem fr_X2_save {N : Nat} {q1 : Nat} {x2 : Int32} {M : v_M} {out : Int32 × v_M} (h : f_X2_save N q1 x2 M = some out) : v_fr [(q1 + 3), (q1 + 4)] [] M out.2 := by
  have fM : v_fr [(q1 + 3), (q1 + 4)] [] M M := v_frR
  unfold f_X2_save at h
  obtain ⟨z1, hz1, h⟩ := v_bdS h
  have fz1 : v_fr [(q1 + 3), (q1 + 4)] [] M z1.2 := v_frt (by simp) (by simp) fM (fr_X11_within hz1)
  rcases v_iteS h with ⟨c, h⟩ | ⟨c, h⟩
  · have h := Option.some.inj h
    subst h
    exact fz1
  · obtain ⟨z2, hz2, h⟩ := v_bdS h
    have fz2 : v_fr [(q1 + 3), (q1 + 4)] [] M z2.2 := v_frt (by simp) (by simp) fz1 (fr_X4_spot hz2)
    obtain ⟨y3, ey3, h⟩ := v_ltM h
    obtain ⟨hb, h⟩ := v_ckS h
    obtain ⟨M4, eM4, h⟩ := v_ltM h
    have fM4 : v_fr [(q1 + 3), (q1 + 4)] [] M M4 := by rw [eM4]; exact v_frr (by simp) fz2
    obtain ⟨hb, h⟩ := v_ckS h
    obtain ⟨M5, eM5, h⟩ := v_ltM h
    have fM5 : v_fr [(q1 + 3), (q1 + 4)] [] M M5 := by rw [eM5]; exact v_frr (by simp) fM4
    have h := Option.some.inj h
    subst h
    exact fM5
theorem fw_X2_farthest_L119 {N : Nat} {x2 : Int32} {x3 : Int32} {M : v_M} {out : Int32 × v_M} {k16 : Int32 → Int32 → v_M → Option (Int32 × v_M)} (hk16 : ∀ (x2 : Int32) (x3 : Int32) (M : v_M), k16 x2 x3 M = some out → v_fr [27] [] M out.2) (h : f_X2_farthest_L119 N k16 x2 x3 M = some out) : v_fr [27] [] M out.2 := by
  have fM : v_fr [27] [] M M := v_frR
  unfold f_X2_farthest_L119 at h
  exact v_frT fM (hk16 _ _ _ h)
theorem fv_X2_farthest_L16 {N : Nat} {out : Int32 × v_M} (n : Nat) : ∀ (x2 : Int32) (x3 : Int32) (M : v_M), f_X2_farthest_L16 N n x2 x3 M = some out → v_fr [27] [] M out.2 := by
  induction n with
  | zero => intro x2 x3 M h; rw [f_X2_farthest_L16] at h; cases h
  | succ n ih =>
    intro x2 x3 M h
    have fM : v_fr [27] [] M M := v_frR
    rw [f_X2_farthest_L16] at h
    rcases v_iteS h with ⟨c, h⟩ | ⟨c, h⟩
    · obtain ⟨hb, h⟩ := v_ckS h
      obtain ⟨hb, h⟩ := v_ckS h
      have h := Option.some.inj h
      subst h
      exact fM
    · obtain ⟨hb, h⟩ := v_ckS h
      obtain ⟨y1, ey1, h⟩ := v_ltM h
      obtain ⟨hb, h⟩ := v_ckS h
      obtain ⟨y2, ey2, h⟩ := v_ltM h
      obtain ⟨z3, hz3, h⟩ := v_bdS h
      have fz3 : v_fr [27] [] M z3.2 := v_frt (by simp) (by simp) fM (fr_X2_mostAsked hz3)
      obtain ⟨y4, ey4, h⟩ := v_ltM h
      rcases v_iteS h with ⟨c, h⟩ | ⟨c, h⟩
      · exact v_frT fz3 (fw_X2_farthest_L119 ih h)
      · rcases v_iteS h with ⟨c, h⟩ | ⟨c, h⟩
        · exact v_frT fz3 (fw_X2_farthest_L119 ih h)
        · rcases v_iteS h with ⟨c, h⟩ | ⟨c, h⟩
          · exact v_frT fz3 (fw_X2_farthest_L119 ih h)
          · rcases v_iteS h with ⟨c, h⟩ | ⟨c, h⟩
            · exact v_frT fz3 (fw_X2_farthest_L119 ih h)
            · obtain ⟨hb, h⟩ := v_ckS h
              obtain ⟨hb, h⟩ := v_ckS h
              obtain ⟨y5, ey5, h⟩ := v_ltM h
              obtain ⟨hb, h⟩ := v_ckS h
              obtain ⟨hb, h⟩ := v_ckS h
              obtain ⟨hb, h⟩ := v_ckS h
              obtain ⟨hb, h⟩ := v_ckS h
              obtain ⟨M6, eM6, h⟩ := v_ltM h
              have fM6 : v_fr [27] [] M M6 := by rw [eM6]; exact v_frw (by simp) fz3
              exact v_frT fM6 (fw_X2_farthest_L119 ih h)
theorem fw_X2_farthest_L16 {N n : Nat} {x2 : Int32} {x3 : Int32} {M : v_M} {out : Int32 × v_M} (h : f_X2_farthest_L16 N n x2 x3 M = some out) : v_fr [27] [] M out.2 := fv_X2_farthest_L16 n x2 x3 M h
theorem fr_X2_farthest {N : Nat} {x2 : Int32} {M : v_M} {out : Int32 × v_M} (h : f_X2_farthest N x2 M = some out) : v_fr [27] [] M out.2 := by
  have fM : v_fr [27] [] M M := v_frR
  unfold f_X2_farthest at h
  obtain ⟨z1, hz1, h⟩ := v_bdS h
  have fz1 : v_fr [27] [] M z1.2 := v_frt (by simp) (by simp) fM (fr_J7_fill_53178 hz1)
  obtain ⟨y2, ey2, h⟩ := v_ltM h
  exact v_frT fz1 (fw_X2_farthest_L16 h)
theorem fw_X2_isOver_L66 {N : Nat} {x2 : Int32} {t0 : Int32} {M : v_M} {out : Int32 × v_M} (h : f_X2_isOver_L66 N x2 t0 M = some out) : v_fr [] [] M out.2 := by
  have fM : v_fr [] [] M M := v_frR
  unfold f_X2_isOver_L66 at h
  obtain ⟨hb, h⟩ := v_ckS h
  obtain ⟨hb, h⟩ := v_ckS h
  rcases v_iteS h with ⟨c, h⟩ | ⟨c, h⟩
  · obtain ⟨hb, h⟩ := v_ckS h
    have h := Option.some.inj h
    subst h
    exact fM
  · obtain ⟨hb, h⟩ := v_ckS h
    have h := Option.some.inj h
    subst h
    exact fM
theorem fw_X2_isOver_L44 {N : Nat} {x2 : Int32} {x3 : Int32} {t0 : Int32} {M : v_M} {out : Int32 × v_M} (h : f_X2_isOver_L44 N x2 x3 t0 M = some out) : v_fr [] [] M out.2 := by
  have fM : v_fr [] [] M M := v_frR
  unfold f_X2_isOver_L44 at h
  rcases v_iteS h with ⟨c, h⟩ | ⟨c, h⟩
  · obtain ⟨hb, h⟩ := v_ckS h
    exact v_frT fM (fw_X2_isOver_L66 h)
  · obtain ⟨hb, h⟩ := v_ckS h
    exact v_frT fM (fw_X2_isOver_L66 h)
theorem fw_X2_isOver_L43 {N : Nat} {x2 : Int32} {x3 : Int32} {M : v_M} {out : Int32 × v_M} (h : f_X2_isOver_L43 N x2 x3 M = some out) : v_fr [] [] M out.2 := by
  have fM : v_fr [] [] M M := v_frR
  unfold f_X2_isOver_L43 at h
  exact v_frT fM (fw_X2_isOver_L44 h)
theorem fr_X2_isOver {N : Nat} {x2 : Int32} {M : v_M} {out : Int32 × v_M} (h : f_X2_isOver N x2 M = some out) : v_fr [] [] M out.2 := by
  have fM : v_fr [] [] M M := v_frR
  unfold f_X2_isOver at h
  obtain ⟨z1, hz1, h⟩ := v_bdS h
  have fz1 : v_fr [] [] M z1.2 := v_frt (by simp) (by simp) fM (fr_X11_within hz1)
  rcases v_iteS h with ⟨c, h⟩ | ⟨c, h⟩
  · obtain ⟨hb, h⟩ := v_ckS h
    have h := Option.some.inj h
    subst h
    exact fz1
  · obtain ⟨hb, h⟩ := v_ckS h
    obtain ⟨y2, ey2, h⟩ := v_ltM h
    obtain ⟨hb, h⟩ := v_ckS h
    rcases v_iteS h with ⟨c, h⟩ | ⟨c, h⟩
    · obtain ⟨z3, hz3, h⟩ := v_bdS h
      have fz3 : v_fr [] [] M z3.2 := v_frt (by simp) (by simp) fz1 (fr_X11_within hz3)
      rcases v_iteS h with ⟨c, h⟩ | ⟨c, h⟩
      · exact v_frT fz3 (fw_X2_isOver_L43 h)
      · exact v_frT fz3 (fw_X2_isOver_L44 h)
    · exact v_frT fz1 (fw_X2_isOver_L43 h)
theorem fw_X2_isShut_L35 {N : Nat} {x2 : Int32} {x3 : Int32} {M : v_M} {out : Int32 × v_M} {k4 : Int32 → Int32 → v_M → Option (Int32 × v_M)} (hk4 : ∀ (x2 : Int32) (x3 : Int32) (M : v_M), k4 x2 x3 M = some out → v_fr [] [] M out.2) (h : f_X2_isShut_L35 N k4 x2 x3 M = some out) : v_fr [] [] M out.2 := by
  have fM : v_fr [] [] M M := v_frR
  unfold f_X2_isShut_L35 at h
  exact v_frT fM (hk4 _ _ _ h)
theorem fv_X2_isShut_L4 {N : Nat} {out : Int32 × v_M} (n : Nat) : ∀ (x2 : Int32) (x3 : Int32) (M : v_M), f_X2_isShut_L4 N n x2 x3 M = some out → v_fr [] [] M out.2 := by
  induction n with
  | zero => intro x2 x3 M h; rw [f_X2_isShut_L4] at h; cases h
  | succ n ih =>
    intro x2 x3 M h
    have fM : v_fr [] [] M M := v_frR
    rw [f_X2_isShut_L4] at h
    rcases v_iteS h with ⟨c, h⟩ | ⟨c, h⟩
    · obtain ⟨hb, h⟩ := v_ckS h
      have h := Option.some.inj h
      subst h
      exact fM
    · obtain ⟨hb, h⟩ := v_ckS h
      rcases v_iteS h with ⟨c, h⟩ | ⟨c, h⟩
      · obtain ⟨z1, hz1, h⟩ := v_bdS h
        have fz1 : v_fr [] [] M z1.2 := v_frt (by simp) (by simp) fM (fr_X2_isOver hz1)
        rcases v_iteS h with ⟨c, h⟩ | ⟨c, h⟩
        · obtain ⟨hb, h⟩ := v_ckS h
          have h := Option.some.inj h
          subst h
          exact fz1
        · exact v_frT fz1 (fw_X2_isShut_L35 ih h)
      · exact v_frT fM (fw_X2_isShut_L35 ih h)
theorem fw_X2_isShut_L4 {N n : Nat} {x2 : Int32} {x3 : Int32} {M : v_M} {out : Int32 × v_M} (h : f_X2_isShut_L4 N n x2 x3 M = some out) : v_fr [] [] M out.2 := fv_X2_isShut_L4 n x2 x3 M h
theorem fr_X2_isShut {N : Nat} {M : v_M} {out : Int32 × v_M} (h : f_X2_isShut N M = some out) : v_fr [] [] M out.2 := by
  have fM : v_fr [] [] M M := v_frR
  unfold f_X2_isShut at h
  exact v_frT fM (fw_X2_isShut_L4 h)
theorem fw_X2_looksShut_L35 {N : Nat} {x2 : Int32} {x3 : Int32} {M : v_M} {out : Int32 × v_M} {k2 : Int32 → Int32 → v_M → Option (Int32 × v_M)} (hk2 : ∀ (x2 : Int32) (x3 : Int32) (M : v_M), k2 x2 x3 M = some out → v_fr [] [] M out.2) (h : f_X2_looksShut_L35 N k2 x2 x3 M = some out) : v_fr [] [] M out.2 := by
  have fM : v_fr [] [] M M := v_frR
  unfold f_X2_looksShut_L35 at h
  exact v_frT fM (hk2 _ _ _ h)
theorem fv_X2_looksShut_L2 {N : Nat} {out : Int32 × v_M} (n : Nat) : ∀ (x2 : Int32) (x3 : Int32) (M : v_M), f_X2_looksShut_L2 N n x2 x3 M = some out → v_fr [] [] M out.2 := by
  induction n with
  | zero => intro x2 x3 M h; rw [f_X2_looksShut_L2] at h; cases h
  | succ n ih =>
    intro x2 x3 M h
    have fM : v_fr [] [] M M := v_frR
    rw [f_X2_looksShut_L2] at h
    rcases v_iteS h with ⟨c, h⟩ | ⟨c, h⟩
    · obtain ⟨hb, h⟩ := v_ckS h
      have h := Option.some.inj h
      subst h
      exact fM
    · obtain ⟨hb, h⟩ := v_ckS h
      obtain ⟨z1, hz1, h⟩ := v_bdS h
      have fz1 : v_fr [] [] M z1.2 := v_frt (by simp) (by simp) fM (fr_X2_lookBit hz1)
      rcases v_iteS h with ⟨c, h⟩ | ⟨c, h⟩
      · exact v_frT fz1 (fw_X2_looksShut_L35 ih h)
      · obtain ⟨z2, hz2, h⟩ := v_bdS h
        have fz2 : v_fr [] [] M z2.2 := v_frt (by simp) (by simp) fz1 (fr_X2_isOver hz2)
        rcases v_iteS h with ⟨c, h⟩ | ⟨c, h⟩
        · obtain ⟨hb, h⟩ := v_ckS h
          have h := Option.some.inj h
          subst h
          exact fz2
        · exact v_frT fz2 (fw_X2_looksShut_L35 ih h)
theorem fw_X2_looksShut_L2 {N n : Nat} {x2 : Int32} {x3 : Int32} {M : v_M} {out : Int32 × v_M} (h : f_X2_looksShut_L2 N n x2 x3 M = some out) : v_fr [] [] M out.2 := fv_X2_looksShut_L2 n x2 x3 M h
theorem fr_X2_looksShut {N : Nat} {x2 : Int32} {M : v_M} {out : Int32 × v_M} (h : f_X2_looksShut N x2 M = some out) : v_fr [] [] M out.2 := by
  have fM : v_fr [] [] M M := v_frR
  unfold f_X2_looksShut at h
  exact v_frT fM (fw_X2_looksShut_L2 h)
theorem fr_X2_isUnlike {N : Nat} {x2 : Int32} {M : v_M} {out : Int32 × v_M} (h : f_X2_isUnlike N x2 M = some out) : v_fr [] [] M out.2 := by
  have fM : v_fr [] [] M M := v_frR
  unfold f_X2_isUnlike at h
  obtain ⟨z1, hz1, h⟩ := v_bdS h
  have fz1 : v_fr [] [] M z1.2 := v_frt (by simp) (by simp) fM (fr_X2_looksShut hz1)
  rcases v_iteS h with ⟨c, h⟩ | ⟨c, h⟩
  · obtain ⟨hb, h⟩ := v_ckS h
    have h := Option.some.inj h
    subst h
    exact fz1
  · obtain ⟨z2, hz2, h⟩ := v_bdS h
    have fz2 : v_fr [] [] M z2.2 := v_frt (by simp) (by simp) fz1 (fr_X2_isShut hz2)
    rcases v_iteS h with ⟨c, h⟩ | ⟨c, h⟩
    · obtain ⟨hb, h⟩ := v_ckS h
      have h := Option.some.inj h
      subst h
      exact fz2
    · obtain ⟨hb, h⟩ := v_ckS h
      have h := Option.some.inj h
      subst h
      exact fz2
theorem fw_X2_gatherHooks_L69 {N : Nat} {x2 : Int32} {x3 : Int32} {M : v_M} {out : Int32 × v_M} {k4 : Int32 → Int32 → v_M → Option (Int32 × v_M)} (hk4 : ∀ (x2 : Int32) (x3 : Int32) (M : v_M), k4 x2 x3 M = some out → v_fr [28] [] M out.2) (h : f_X2_gatherHooks_L69 N k4 x2 x3 M = some out) : v_fr [28] [] M out.2 := by
  have fM : v_fr [28] [] M M := v_frR
  unfold f_X2_gatherHooks_L69 at h
  exact v_frT fM (hk4 _ _ _ h)
theorem fv_X2_gatherHooks_L4 {N : Nat} {out : Int32 × v_M} (n : Nat) : ∀ (x2 : Int32) (x3 : Int32) (M : v_M), f_X2_gatherHooks_L4 N n x2 x3 M = some out → v_fr [28] [] M out.2 := by
  induction n with
  | zero => intro x2 x3 M h; rw [f_X2_gatherHooks_L4] at h; cases h
  | succ n ih =>
    intro x2 x3 M h
    have fM : v_fr [28] [] M M := v_frR
    rw [f_X2_gatherHooks_L4] at h
    rcases v_iteS h with ⟨c, h⟩ | ⟨c, h⟩
    · have h := Option.some.inj h
      subst h
      exact fM
    · obtain ⟨hb, h⟩ := v_ckS h
      rcases v_iteS h with ⟨c, h⟩ | ⟨c, h⟩
      · obtain ⟨z1, hz1, h⟩ := v_bdS h
        have fz1 : v_fr [28] [] M z1.2 := v_frt (by simp) (by simp) fM (fr_X2_isOver hz1)
        rcases v_iteS h with ⟨c, h⟩ | ⟨c, h⟩
        · exact v_frT fz1 (fw_X2_gatherHooks_L69 ih h)
        · obtain ⟨hb, h⟩ := v_ckS h
          obtain ⟨hb, h⟩ := v_ckS h
          obtain ⟨hb, h⟩ := v_ckS h
          obtain ⟨hb, h⟩ := v_ckS h
          obtain ⟨hb, h⟩ := v_ckS h
          obtain ⟨M2, eM2, h⟩ := v_ltM h
          have fM2 : v_fr [28] [] M M2 := by rw [eM2]; exact v_frw (by simp) fz1
          exact v_frT fM2 (fw_X2_gatherHooks_L69 ih h)
      · exact v_frT fM (fw_X2_gatherHooks_L69 ih h)
theorem fw_X2_gatherHooks_L4 {N n : Nat} {x2 : Int32} {x3 : Int32} {M : v_M} {out : Int32 × v_M} (h : f_X2_gatherHooks_L4 N n x2 x3 M = some out) : v_fr [28] [] M out.2 := fv_X2_gatherHooks_L4 n x2 x3 M h
theorem fr_X2_gatherHooks {N : Nat} {M : v_M} {out : Int32 × v_M} (h : f_X2_gatherHooks N M = some out) : v_fr [28] [] M out.2 := by
  have fM : v_fr [28] [] M M := v_frR
  unfold f_X2_gatherHooks at h
  exact v_frT fM (fw_X2_gatherHooks_L4 h)
theorem fr_X3_takesKind {N : Nat} {x1 : Int32} {x2 : Int32} {M : v_M} {out : Int32 × v_M} (h : f_X3_takesKind N x1 x2 M = some out) : v_fr [] [] M out.2 := by
  have fM : v_fr [] [] M M := v_frR
  unfold f_X3_takesKind at h
  rcases v_iteS h with ⟨c, h⟩ | ⟨c, h⟩
  · rcases v_iteS h with ⟨c, h⟩ | ⟨c, h⟩
    · rcases v_iteS h with ⟨c, h⟩ | ⟨c, h⟩
      · rcases v_iteS h with ⟨c, h⟩ | ⟨c, h⟩
        · obtain ⟨hb, h⟩ := v_ckS h
          have h := Option.some.inj h
          subst h
          exact fM
        · obtain ⟨hb, h⟩ := v_ckS h
          have h := Option.some.inj h
          subst h
          exact fM
      · obtain ⟨hb, h⟩ := v_ckS h
        have h := Option.some.inj h
        subst h
        exact fM
    · obtain ⟨z1, hz1, h⟩ := v_bdS h
      have fz1 : v_fr [] [] M z1.2 := v_frt (by simp) (by simp) fM (fr_X11_within hz1)
      rcases v_iteS h with ⟨c, h⟩ | ⟨c, h⟩
      · obtain ⟨hb, h⟩ := v_ckS h
        have h := Option.some.inj h
        subst h
        exact fz1
      · obtain ⟨z2, hz2, h⟩ := v_bdS h
        have fz2 : v_fr [] [] M z2.2 := v_frt (by simp) (by simp) fz1 (fr_X11_within hz2)
        rcases v_iteS h with ⟨c, h⟩ | ⟨c, h⟩
        · obtain ⟨hb, h⟩ := v_ckS h
          have h := Option.some.inj h
          subst h
          exact fz2
        · rcases v_iteS h with ⟨c, h⟩ | ⟨c, h⟩
          · obtain ⟨hb, h⟩ := v_ckS h
            rcases v_iteS h with ⟨c, h⟩ | ⟨c, h⟩
            · obtain ⟨hb, h⟩ := v_ckS h
              have h := Option.some.inj h
              subst h
              exact fz2
            · obtain ⟨hb, h⟩ := v_ckS h
              have h := Option.some.inj h
              subst h
              exact fz2
          · obtain ⟨hb, h⟩ := v_ckS h
            rcases v_iteS h with ⟨c, h⟩ | ⟨c, h⟩
            · obtain ⟨hb, h⟩ := v_ckS h
              have h := Option.some.inj h
              subst h
              exact fz2
            · obtain ⟨hb, h⟩ := v_ckS h
              have h := Option.some.inj h
              subst h
              exact fz2
  · obtain ⟨hb, h⟩ := v_ckS h
    have h := Option.some.inj h
    subst h
    exact fM
theorem fr_X4_letGo {N : Nat} {q0 : Nat} {x1 : Int32} {M : v_M} {out : Int32 × v_M} (h : f_X4_letGo N q0 x1 M = some out) : v_fr [(q0 + 4)] [] M out.2 := by
  have fM : v_fr [(q0 + 4)] [] M M := v_frR
  unfold f_X4_letGo at h
  obtain ⟨z1, hz1, h⟩ := v_bdS h
  have fz1 : v_fr [(q0 + 4)] [] M z1.2 := v_frt (by simp) (by simp) fM (fr_X11_within hz1)
  rcases v_iteS h with ⟨c, h⟩ | ⟨c, h⟩
  · have h := Option.some.inj h
    subst h
    exact fz1
  · obtain ⟨z2, hz2, h⟩ := v_bdS h
    have fz2 : v_fr [(q0 + 4)] [] M z2.2 := v_frt (by simp) (by simp) fz1 (fr_X4_spot hz2)
    obtain ⟨z3, hz3, h⟩ := v_bdS h
    have fz3 : v_fr [(q0 + 4)] [] M z3.2 := v_frt (by simp) (by simp) fz2 (fr_X4_spot hz3)
    obtain ⟨z4, hz4, h⟩ := v_bdS h
    have fz4 : v_fr [(q0 + 4)] [] M z4.2 := v_frt (by simp) (by simp) fz3 (fr_J7_fill_fda19 hz4)
    have h := Option.some.inj h
    subst h
    exact fz4
theorem fr_X4_hasTaken {N : Nat} {q0 : Nat} {x1 : Int32} {x2 : Int32} {M : v_M} {out : Int32 × v_M} (h : f_X4_hasTaken N q0 x1 x2 M = some out) : v_fr [] [] M out.2 := by
  have fM : v_fr [] [] M M := v_frR
  unfold f_X4_hasTaken at h
  obtain ⟨z1, hz1, h⟩ := v_bdS h
  have fz1 : v_fr [] [] M z1.2 := v_frt (by simp) (by simp) fM (fr_X11_within hz1)
  rcases v_iteS h with ⟨c, h⟩ | ⟨c, h⟩
  · obtain ⟨hb, h⟩ := v_ckS h
    have h := Option.some.inj h
    subst h
    exact fz1
  · obtain ⟨hb, h⟩ := v_ckS h
    rcases v_iteS h with ⟨c, h⟩ | ⟨c, h⟩
    · obtain ⟨hb, h⟩ := v_ckS h
      have h := Option.some.inj h
      subst h
      exact fz1
    · obtain ⟨hb, h⟩ := v_ckS h
      have h := Option.some.inj h
      subst h
      exact fz1
theorem fw_X4_addFlights_L99 {N : Nat} {q0 : Nat} {x2 : Int32} {x4 : Int32} {x5 : Int32} {x6 : Int32} {M : v_M} {out : Int32 × v_M} {k37 : Int32 → Int32 → Int32 → Int32 → v_M → Option (Int32 × v_M)} (hk37 : ∀ (x2 : Int32) (x4 : Int32) (x5 : Int32) (x6 : Int32) (M : v_M), k37 x2 x4 x5 x6 M = some out → v_fr [(q0 + 1), (q0 + 5)] [] M out.2) (h : f_X4_addFlights_L99 N q0 k37 x2 x4 x5 x6 M = some out) : v_fr [(q0 + 1), (q0 + 5)] [] M out.2 := by
  have fM : v_fr [(q0 + 1), (q0 + 5)] [] M M := v_frR
  unfold f_X4_addFlights_L99 at h
  exact v_frT fM (hk37 _ _ _ _ _ h)
theorem fv_X4_addFlights_L37 {N : Nat} {q0 : Nat} {out : Int32 × v_M} (n : Nat) : ∀ (x2 : Int32) (x4 : Int32) (x5 : Int32) (x6 : Int32) (M : v_M), f_X4_addFlights_L37 N q0 n x2 x4 x5 x6 M = some out → v_fr [(q0 + 1), (q0 + 5)] [] M out.2 := by
  induction n with
  | zero => intro x2 x4 x5 x6 M h; rw [f_X4_addFlights_L37] at h; cases h
  | succ n ih =>
    intro x2 x4 x5 x6 M h
    have fM : v_fr [(q0 + 1), (q0 + 5)] [] M M := v_frR
    rw [f_X4_addFlights_L37] at h
    rcases v_iteS h with ⟨c, h⟩ | ⟨c, h⟩
    · obtain ⟨hb, h⟩ := v_ckS h
      obtain ⟨M1, eM1, h⟩ := v_ltM h
      have fM1 : v_fr [(q0 + 1), (q0 + 5)] [] M M1 := by rw [eM1]; exact v_frw (by simp) fM
      have h := Option.some.inj h
      subst h
      exact fM1
    · obtain ⟨hb, h⟩ := v_ckS h
      obtain ⟨y2, ey2, h⟩ := v_ltM h
      rcases v_iteS h with ⟨c, h⟩ | ⟨c, h⟩
      · exact v_frT fM (fw_X4_addFlights_L99 ih h)
      · obtain ⟨z3, hz3, h⟩ := v_bdS h
        have fz3 : v_fr [(q0 + 1), (q0 + 5)] [] M z3.2 := v_frt (by simp) (by simp) fM (fr_X4_spot hz3)
        obtain ⟨y4, ey4, h⟩ := v_ltM h
        obtain ⟨hb, h⟩ := v_ckS h
        obtain ⟨hb, h⟩ := v_ckS h
        obtain ⟨hb, h⟩ := v_ckS h
        obtain ⟨hb, h⟩ := v_ckS h
        obtain ⟨M5, eM5, h⟩ := v_ltM h
        have fM5 : v_fr [(q0 + 1), (q0 + 5)] [] M M5 := by rw [eM5]; exact v_frw (by simp) fz3
        exact v_frT fM5 (fw_X4_addFlights_L99 ih h)
theorem fw_X4_addFlights_L37 {N n : Nat} {q0 : Nat} {x2 : Int32} {x4 : Int32} {x5 : Int32} {x6 : Int32} {M : v_M} {out : Int32 × v_M} (h : f_X4_addFlights_L37 N q0 n x2 x4 x5 x6 M = some out) : v_fr [(q0 + 1), (q0 + 5)] [] M out.2 := fv_X4_addFlights_L37 n x2 x4 x5 x6 M h
theorem fr_X4_addFlights {N : Nat} {q0 : Nat} {x2 : Int32} {x3 : Int32} {M : v_M} {out : Int32 × v_M} (h : f_X4_addFlights N q0 x2 x3 M = some out) : v_fr [(q0 + 1), (q0 + 5)] [] M out.2 := by
  have fM : v_fr [(q0 + 1), (q0 + 5)] [] M M := v_frR
  unfold f_X4_addFlights at h
  obtain ⟨z1, hz1, h⟩ := v_bdS h
  have fz1 : v_fr [(q0 + 1), (q0 + 5)] [] M z1.2 := v_frt (by simp) (by simp) fM (fr_X11_within hz1)
  rcases v_iteS h with ⟨c, h⟩ | ⟨c, h⟩
  · have h := Option.some.inj h
    subst h
    exact fz1
  · obtain ⟨hb, h⟩ := v_ckS h
    obtain ⟨y2, ey2, h⟩ := v_ltM h
    obtain ⟨y3, ey3, h⟩ := v_ltM h
    exact v_frT fz1 (fw_X4_addFlights_L37 h)
theorem fw_X4_sumOf_L43 {N : Nat} {q0 : Nat} {r1 n1 : Nat} {x2 : Int32} {x4 : Int32} {t0 : Int32} {t1 : Int32} {M : v_M} {out : Int32 × v_M} {k9 : Int32 → Int32 → Int32 → v_M → Option (Int32 × v_M)} (hk9 : ∀ (x2 : Int32) (x3 : Int32) (x4 : Int32) (M : v_M), k9 x2 x3 x4 M = some out → v_fr [] [] M out.2) (h : f_X4_sumOf_L43 N q0 r1 n1 k9 x2 x4 t0 t1 M = some out) : v_fr [] [] M out.2 := by
  have fM : v_fr [] [] M M := v_frR
  unfold f_X4_sumOf_L43 at h
  obtain ⟨y1, ey1, h⟩ := v_ltM h
  exact v_frT fM (hk9 _ _ _ _ h)
theorem fv_X4_sumOf_L9 {N : Nat} {q0 : Nat} {r1 n1 : Nat} {out : Int32 × v_M} (n : Nat) : ∀ (x2 : Int32) (x3 : Int32) (x4 : Int32) (M : v_M), f_X4_sumOf_L9 N q0 r1 n1 n x2 x3 x4 M = some out → v_fr [] [] M out.2 := by
  induction n with
  | zero => intro x2 x3 x4 M h; rw [f_X4_sumOf_L9] at h; cases h
  | succ n ih =>
    intro x2 x3 x4 M h
    have fM : v_fr [] [] M M := v_frR
    rw [f_X4_sumOf_L9] at h
    obtain ⟨z1, hz1, h⟩ := v_bdS h
    have fz1 : v_fr [] [] M z1.2 := v_frt (by simp) (by simp) fM (fr_X4_spot hz1)
    rcases v_iteS h with ⟨c, h⟩ | ⟨c, h⟩
    · have h := Option.some.inj h
      subst h
      exact fz1
    · obtain ⟨z2, hz2, h⟩ := v_bdS h
      have fz2 : v_fr [] [] M z2.2 := v_frt (by simp) (by simp) fz1 (fr_X11_within hz2)
      rcases v_iteS h with ⟨c, h⟩ | ⟨c, h⟩
      · exact v_frT fz2 (fw_X4_sumOf_L43 ih h)
      · obtain ⟨hb, h⟩ := v_ckS h
        exact v_frT fz2 (fw_X4_sumOf_L43 ih h)
theorem fw_X4_sumOf_L9 {N n : Nat} {q0 : Nat} {r1 n1 : Nat} {x2 : Int32} {x3 : Int32} {x4 : Int32} {M : v_M} {out : Int32 × v_M} (h : f_X4_sumOf_L9 N q0 r1 n1 n x2 x3 x4 M = some out) : v_fr [] [] M out.2 := fv_X4_sumOf_L9 n x2 x3 x4 M h
theorem fr_X4_sumOf {N : Nat} {q0 : Nat} {r1 n1 : Nat} {x2 : Int32} {M : v_M} {out : Int32 × v_M} (h : f_X4_sumOf N q0 r1 n1 x2 M = some out) : v_fr [] [] M out.2 := by
  have fM : v_fr [] [] M M := v_frR
  unfold f_X4_sumOf at h
  obtain ⟨z1, hz1, h⟩ := v_bdS h
  have fz1 : v_fr [] [] M z1.2 := v_frt (by simp) (by simp) fM (fr_X4_spot hz1)
  obtain ⟨y2, ey2, h⟩ := v_ltM h
  exact v_frT fz1 (fw_X4_sumOf_L9 h)
theorem fr_X6_putReading {N : Nat} {x1 : Int32} {x2 : Int32} {x3 : Int32} {M : v_M} {out : Int32 × v_M} (h : f_X6_putReading N x1 x2 x3 M = some out) : v_fr [76] [] M out.2 := by
  have fM : v_fr [76] [] M M := v_frR
  unfold f_X6_putReading at h
  obtain ⟨y1, ey1, h⟩ := v_ltM h
  obtain ⟨z2, hz2, h⟩ := v_bdS h
  have fz2 : v_fr [76] [] M z2.2 := v_frt (by simp) (by simp) fM (fr_X11_within hz2)
  rcases v_iteS h with ⟨c, h⟩ | ⟨c, h⟩
  · have h := Option.some.inj h
    subst h
    exact fz2
  · obtain ⟨hb, h⟩ := v_ckS h
    obtain ⟨hb, h⟩ := v_ckS h
    obtain ⟨M3, eM3, h⟩ := v_ltM h
    have fM3 : v_fr [76] [] M M3 := by rw [eM3]; exact v_frw (by simp) fz2
    have h := Option.some.inj h
    subst h
    exact fM3
theorem fw_X6_gatherKnowing_L69 {N : Nat} {x1 : Int32} {x2 : Int32} {x3 : Int32} {x4 : Int32} {M : v_M} {out : Int32 × v_M} {k13 : Int32 → Int32 → v_M → Option (Int32 × v_M)} (hk13 : ∀ (x1 : Int32) (x2 : Int32) (M : v_M), k13 x1 x2 M = some out → v_fr [74] [] M out.2) {k36 : Int32 → Int32 → Int32 → Int32 → v_M → Option (Int32 × v_M)} (hk36 : ∀ (x1 : Int32) (x2 : Int32) (x3 : Int32) (x4 : Int32) (M : v_M), k36 x1 x2 x3 x4 M = some out → v_fr [74] [] M out.2) (h : f_X6_gatherKnowing_L69 N k13 k36 x1 x2 x3 x4 M = some out) : v_fr [74] [] M out.2 := by
  have fM : v_fr [74] [] M M := v_frR
  unfold f_X6_gatherKnowing_L69 at h
  exact v_frT fM (hk36 _ _ _ _ _ h)
theorem fv_X6_gatherKnowing_L36 {N : Nat} {out : Int32 × v_M} {k13 : Int32 → Int32 → v_M → Option (Int32 × v_M)} (hk13 : ∀ (x1 : Int32) (x2 : Int32) (M : v_M), k13 x1 x2 M = some out → v_fr [74] [] M out.2) (n : Nat) : ∀ (x1 : Int32) (x2 : Int32) (x3 : Int32) (x4 : Int32) (M : v_M), f_X6_gatherKnowing_L36 N k13 n x1 x2 x3 x4 M = some out → v_fr [74] [] M out.2 := by
  induction n with
  | zero => intro x1 x2 x3 x4 M h; rw [f_X6_gatherKnowing_L36] at h; cases h
  | succ n ih =>
    intro x1 x2 x3 x4 M h
    have fM : v_fr [74] [] M M := v_frR
    rw [f_X6_gatherKnowing_L36] at h
    rcases v_iteS h with ⟨c, h⟩ | ⟨c, h⟩
    · obtain ⟨hb, h⟩ := v_ckS h
      obtain ⟨M1, eM1, h⟩ := v_ltM h
      have fM1 : v_fr [74] [] M M1 := by rw [eM1]; exact v_frw (by simp) fM
      exact v_frT fM1 (hk13 _ _ _ h)
    · obtain ⟨hb, h⟩ := v_ckS h
      rcases v_iteS h with ⟨c, h⟩ | ⟨c, h⟩
      · obtain ⟨hb, h⟩ := v_ckS h
        obtain ⟨y2, ey2, h⟩ := v_ltM h
        exact v_frT fM (fw_X6_gatherKnowing_L69 hk13 ih h)
      · exact v_frT fM (fw_X6_gatherKnowing_L69 hk13 ih h)
theorem fw_X6_gatherKnowing_L36 {N n : Nat} {x1 : Int32} {x2 : Int32} {x3 : Int32} {x4 : Int32} {M : v_M} {out : Int32 × v_M} {k13 : Int32 → Int32 → v_M → Option (Int32 × v_M)} (hk13 : ∀ (x1 : Int32) (x2 : Int32) (M : v_M), k13 x1 x2 M = some out → v_fr [74] [] M out.2) (h : f_X6_gatherKnowing_L36 N k13 n x1 x2 x3 x4 M = some out) : v_fr [74] [] M out.2 := fv_X6_gatherKnowing_L36 hk13 n x1 x2 x3 x4 M h
theorem fv_X6_gatherKnowing_L13 {N : Nat} {out : Int32 × v_M} (n : Nat) : ∀ (x1 : Int32) (x2 : Int32) (M : v_M), f_X6_gatherKnowing_L13 N n x1 x2 M = some out → v_fr [74] [] M out.2 := by
  induction n with
  | zero => intro x1 x2 M h; rw [f_X6_gatherKnowing_L13] at h; cases h
  | succ n ih =>
    intro x1 x2 M h
    have fM : v_fr [74] [] M M := v_frR
    rw [f_X6_gatherKnowing_L13] at h
    rcases v_iteS h with ⟨c, h⟩ | ⟨c, h⟩
    · have h := Option.some.inj h
      subst h
      exact fM
    · obtain ⟨hb, h⟩ := v_ckS h
      obtain ⟨y1, ey1, h⟩ := v_ltM h
      exact v_frT fM (fw_X6_gatherKnowing_L36 ih h)
theorem fw_X6_gatherKnowing_L13 {N n : Nat} {x1 : Int32} {x2 : Int32} {M : v_M} {out : Int32 × v_M} (h : f_X6_gatherKnowing_L13 N n x1 x2 M = some out) : v_fr [74] [] M out.2 := fv_X6_gatherKnowing_L13 n x1 x2 M h
theorem fr_X6_gatherKnowing {N : Nat} {x1 : Int32} {M : v_M} {out : Int32 × v_M} (h : f_X6_gatherKnowing N x1 M = some out) : v_fr [74] [] M out.2 := by
  have fM : v_fr [74] [] M M := v_frR
  unfold f_X6_gatherKnowing at h
  obtain ⟨z1, hz1, h⟩ := v_bdS h
  have fz1 : v_fr [74] [] M z1.2 := v_frt (by simp) (by simp) fM (fr_X11_within hz1)
  rcases v_iteS h with ⟨c, h⟩ | ⟨c, h⟩
  · have h := Option.some.inj h
    subst h
    exact fz1
  · exact v_frT fz1 (fw_X6_gatherKnowing_L13 h)
theorem fr_X7_isNumberTo {N : Nat} {x1 : Int32} {M : v_M} {out : Int32 × v_M} (h : f_X7_isNumberTo N x1 M = some out) : v_fr [] [(35, 6)] M out.2 := by
  have fM : v_fr [] [(35, 6)] M M := v_frR
  unfold f_X7_isNumberTo at h
  rcases v_iteS h with ⟨c, h⟩ | ⟨c, h⟩
  · obtain ⟨z1, hz1, h⟩ := v_bdS h
    have fz1 : v_fr [] [(35, 6)] M z1.2 := v_frt (by simp) (by simp) fM (fr_X11_within hz1)
    rcases v_iteS h with ⟨c, h⟩ | ⟨c, h⟩
    · obtain ⟨z2, hz2, h⟩ := v_bdS h
      have fz2 : v_fr [] [(35, 6)] M z2.2 := v_frt (by simp) (by simp) fz1 (fr_X7_fail hz2)
      rcases v_iteS h with ⟨c, h⟩ | ⟨c, h⟩
      · obtain ⟨hb, h⟩ := v_ckS h
        have h := Option.some.inj h
        subst h
        exact fz2
      · obtain ⟨hb, h⟩ := v_ckS h
        have h := Option.some.inj h
        subst h
        exact fz2
    · obtain ⟨hb, h⟩ := v_ckS h
      have h := Option.some.inj h
      subst h
      exact fz1
  · obtain ⟨z3, hz3, h⟩ := v_bdS h
    have fz3 : v_fr [] [(35, 6)] M z3.2 := v_frt (by simp) (by simp) fM (fr_X7_fail hz3)
    obtain ⟨hb, h⟩ := v_ckS h
    have h := Option.some.inj h
    subst h
    exact fz3
theorem fr_X7_readLook {N : Nat} {qo : Nat} {x1 : Int32} {M : v_M} {out : Int32 × v_M} (h : f_X7_readLook N qo x1 M = some out) : v_fr [(qo + 2)] [(35, 2), (35, 3), (35, 4), (35, 6)] M out.2 := by
  have fM : v_fr [(qo + 2)] [(35, 2), (35, 3), (35, 4), (35, 6)] M M := v_frR
  unfold f_X7_readLook at h
  obtain ⟨z1, hz1, h⟩ := v_bdS h
  have fz1 : v_fr [(qo + 2)] [(35, 2), (35, 3), (35, 4), (35, 6)] M z1.2 := v_frt (by simp) (by simp) fM (fr_X11_within hz1)
  rcases v_iteS h with ⟨c, h⟩ | ⟨c, h⟩
  · obtain ⟨z4, hz4, h⟩ := v_bdS h
    have fz4 : v_fr [(qo + 2)] [(35, 2), (35, 3), (35, 4), (35, 6)] M z4.2 := v_frt (by simp) (by simp) fz1 (fr_X7_fail hz4)
    obtain ⟨hb, h⟩ := v_ckS h
    have h := Option.some.inj h
    subst h
    exact fz4
  · obtain ⟨hb, h⟩ := v_ckS h
    obtain ⟨M2, eM2, h⟩ := v_ltM h
    have fM2 : v_fr [(qo + 2)] [(35, 2), (35, 3), (35, 4), (35, 6)] M M2 := by rw [eM2]; exact v_frw (by simp) fz1
    obtain ⟨z3, hz3, h⟩ := v_bdS h
    have fz3 : v_fr [(qo + 2)] [(35, 2), (35, 3), (35, 4), (35, 6)] M z3.2 := v_frt (by simp) (by simp) fM2 (fr_X7_step hz3)
    obtain ⟨hb, h⟩ := v_ckS h
    have h := Option.some.inj h
    subst h
    exact fz3
theorem fw_X7_readValue_L100 {N : Nat} {qo : Nat} {t0 : Int32} {M : v_M} {out : Int32 × v_M} (h : f_X7_readValue_L100 N qo t0 M = some out) : v_fr [(qo + 6)] [(35, 2), (35, 3), (35, 4), (35, 5), (35, 6), (qo, 3)] M out.2 := by
  have fM : v_fr [(qo + 6)] [(35, 2), (35, 3), (35, 4), (35, 5), (35, 6), (qo, 3)] M M := v_frR
  unfold f_X7_readValue_L100 at h
  obtain ⟨z1, hz1, h⟩ := v_bdS h
  have fz1 : v_fr [(qo + 6)] [(35, 2), (35, 3), (35, 4), (35, 5), (35, 6), (qo, 3)] M z1.2 := v_frt (by simp) (by simp) fM (fr_X5_emit hz1)
  obtain ⟨z2, hz2, h⟩ := v_bdS h
  have fz2 : v_fr [(qo + 6)] [(35, 2), (35, 3), (35, 4), (35, 5), (35, 6), (qo, 3)] M z2.2 := v_frt (by simp) (by simp) fz1 (fr_X7_step hz2)
  obtain ⟨hb, h⟩ := v_ckS h
  have h := Option.some.inj h
  subst h
  exact fz2
theorem fw_X7_readValue_L52 {N : Nat} {qo : Nat} {x1 : Int32} {M : v_M} {out : Int32 × v_M} (h : f_X7_readValue_L52 N qo x1 M = some out) : v_fr [(qo + 6)] [(35, 2), (35, 3), (35, 4), (35, 5), (35, 6), (qo, 3)] M out.2 := by
  have fM : v_fr [(qo + 6)] [(35, 2), (35, 3), (35, 4), (35, 5), (35, 6), (qo, 3)] M M := v_frR
  unfold f_X7_readValue_L52 at h
  rcases v_iteS h with ⟨c, h⟩ | ⟨c, h⟩
  · obtain ⟨M1, eM1, h⟩ := v_ltM h
    have fM1 : v_fr [(qo + 6)] [(35, 2), (35, 3), (35, 4), (35, 5), (35, 6), (qo, 3)] M M1 := by rw [eM1]; exact v_fro (by simp) fM
    rcases v_iteS h with ⟨c, h⟩ | ⟨c, h⟩
    · exact v_frT fM1 (fw_X7_readValue_L100 h)
    · exact v_frT fM1 (fw_X7_readValue_L100 h)
  · obtain ⟨z2, hz2, h⟩ := v_bdS h
    have fz2 : v_fr [(qo + 6)] [(35, 2), (35, 3), (35, 4), (35, 5), (35, 6), (qo, 3)] M z2.2 := v_frt (by simp) (by simp) fM (fr_X7_fail hz2)
    obtain ⟨hb, h⟩ := v_ckS h
    have h := Option.some.inj h
    subst h
    exact fz2
theorem fw_X7_readValue_L34 {N : Nat} {qo : Nat} {x1 : Int32} {M : v_M} {out : Int32 × v_M} (h : f_X7_readValue_L34 N qo x1 M = some out) : v_fr [(qo + 6)] [(35, 2), (35, 3), (35, 4), (35, 5), (35, 6), (qo, 3)] M out.2 := by
  have fM : v_fr [(qo + 6)] [(35, 2), (35, 3), (35, 4), (35, 5), (35, 6), (qo, 3)] M M := v_frR
  unfold f_X7_readValue_L34 at h
  rcases v_iteS h with ⟨c, h⟩ | ⟨c, h⟩
  · rcases v_iteS h with ⟨c, h⟩ | ⟨c, h⟩
    · obtain ⟨z1, hz1, h⟩ := v_bdS h
      have fz1 : v_fr [(qo + 6)] [(35, 2), (35, 3), (35, 4), (35, 5), (35, 6), (qo, 3)] M z1.2 := v_frt (by simp) (by simp) fM (fr_X7_fail hz1)
      obtain ⟨hb, h⟩ := v_ckS h
      have h := Option.some.inj h
      subst h
      exact fz1
    · exact v_frT fM (fw_X7_readValue_L52 h)
  · exact v_frT fM (fw_X7_readValue_L52 h)
theorem fr_X7_readValue {N : Nat} {qo : Nat} {M : v_M} {out : Int32 × v_M} (h : f_X7_readValue N qo M = some out) : v_fr [(qo + 6)] [(35, 2), (35, 3), (35, 4), (35, 5), (35, 6), (qo, 3)] M out.2 := by
  have fM : v_fr [(qo + 6)] [(35, 2), (35, 3), (35, 4), (35, 5), (35, 6), (qo, 3)] M M := v_frR
  unfold f_X7_readValue at h
  obtain ⟨z1, hz1, h⟩ := v_bdS h
  have fz1 : v_fr [(qo + 6)] [(35, 2), (35, 3), (35, 4), (35, 5), (35, 6), (qo, 3)] M z1.2 := v_frt (by simp) (by simp) fM (fr_X11_within hz1)
  obtain ⟨y2, ey2, h⟩ := v_ltM h
  rcases v_iteS h with ⟨c, h⟩ | ⟨c, h⟩
  · exact v_frT fz1 (fw_X7_readValue_L34 h)
  · rcases v_iteS h with ⟨c, h⟩ | ⟨c, h⟩
    · obtain ⟨z3, hz3, h⟩ := v_bdS h
      have fz3 : v_fr [(qo + 6)] [(35, 2), (35, 3), (35, 4), (35, 5), (35, 6), (qo, 3)] M z3.2 := v_frt (by simp) (by simp) fz1 (fr_X7_fail hz3)
      obtain ⟨hb, h⟩ := v_ckS h
      have h := Option.some.inj h
      subst h
      exact fz3
    · exact v_frT fz1 (fw_X7_readValue_L34 h)
theorem fw_X8_put_L115 {N : Nat} {x4 : Int32} {x5 : Int32} {t0 : Int32} {t1 : Int32} {M : v_M} {out : Int32 × v_M} (h : f_X8_put_L115 N x4 x5 t0 t1 M = some out) : v_fr [53, 54, 55, 56, 57, 58, 59, 60] [(52, 0)] M out.2 := by
  have fM : v_fr [53, 54, 55, 56, 57, 58, 59, 60] [(52, 0)] M M := v_frR
  unfold f_X8_put_L115 at h
  obtain ⟨hb, h⟩ := v_ckS h
  obtain ⟨M1, eM1, h⟩ := v_ltM h
  have fM1 : v_fr [53, 54, 55, 56, 57, 58, 59, 60] [(52, 0)] M M1 := by rw [eM1]; exact v_frw (by simp) fM
  obtain ⟨hb, h⟩ := v_ckS h
  obtain ⟨M2, eM2, h⟩ := v_ltM h
  have fM2 : v_fr [53, 54, 55, 56, 57, 58, 59, 60] [(52, 0)] M M2 := by rw [eM2]; exact v_frw (by simp) fM1
  obtain ⟨M3, eM3, h⟩ := v_ltM h
  have fM3 : v_fr [53, 54, 55, 56, 57, 58, 59, 60] [(52, 0)] M M3 := by rw [eM3]; exact v_fro (by simp) fM2
  have h := Option.some.inj h
  subst h
  exact fM3
theorem fr_X8_put {N : Nat} {x1 : Int32} {x2 : Int32} {x3 : Int32} {M : v_M} {out : Int32 × v_M} (h : f_X8_put N x1 x2 x3 M = some out) : v_fr [53, 54, 55, 56, 57, 58, 59, 60] [(52, 0)] M out.2 := by
  have fM : v_fr [53, 54, 55, 56, 57, 58, 59, 60] [(52, 0)] M M := v_frR
  unfold f_X8_put at h
  rcases v_iteS h with ⟨c, h⟩ | ⟨c, h⟩
  · have h := Option.some.inj h
    subst h
    exact fM
  · obtain ⟨z1, hz1, h⟩ := v_bdS h
    have fz1 : v_fr [53, 54, 55, 56, 57, 58, 59, 60] [(52, 0)] M z1.2 := v_frt (by simp) (by simp) fM (fr_X11_within hz1)
    rcases v_iteS h with ⟨c, h⟩ | ⟨c, h⟩
    · have h := Option.some.inj h
      subst h
      exact fz1
    · obtain ⟨y2, ey2, h⟩ := v_ltM h
      obtain ⟨z3, hz3, h⟩ := v_bdS h
      have fz3 : v_fr [53, 54, 55, 56, 57, 58, 59, 60] [(52, 0)] M z3.2 := v_frt (by simp) (by simp) fz1 (fr_X8_findTurn hz3)
      obtain ⟨y4, ey4, h⟩ := v_ltM h
      obtain ⟨hb, h⟩ := v_ckS h
      obtain ⟨M5, eM5, h⟩ := v_ltM h
      have fM5 : v_fr [53, 54, 55, 56, 57, 58, 59, 60] [(52, 0)] M M5 := by rw [eM5]; exact v_frw (by simp) fz3
      obtain ⟨hb, h⟩ := v_ckS h
      obtain ⟨M6, eM6, h⟩ := v_ltM h
      have fM6 : v_fr [53, 54, 55, 56, 57, 58, 59, 60] [(52, 0)] M M6 := by rw [eM6]; exact v_frw (by simp) fM5
      obtain ⟨hb, h⟩ := v_ckS h
      obtain ⟨M7, eM7, h⟩ := v_ltM h
      have fM7 : v_fr [53, 54, 55, 56, 57, 58, 59, 60] [(52, 0)] M M7 := by rw [eM7]; exact v_frw (by simp) fM6
      obtain ⟨hb, h⟩ := v_ckS h
      obtain ⟨M8, eM8, h⟩ := v_ltM h
      have fM8 : v_fr [53, 54, 55, 56, 57, 58, 59, 60] [(52, 0)] M M8 := by rw [eM8]; exact v_frw (by simp) fM7
      obtain ⟨hb, h⟩ := v_ckS h
      obtain ⟨hb, h⟩ := v_ckS h
      obtain ⟨M9, eM9, h⟩ := v_ltM h
      have fM9 : v_fr [53, 54, 55, 56, 57, 58, 59, 60] [(52, 0)] M M9 := by rw [eM9]; exact v_frw (by simp) fM8
      obtain ⟨hb, h⟩ := v_ckS h
      obtain ⟨M10, eM10, h⟩ := v_ltM h
      have fM10 : v_fr [53, 54, 55, 56, 57, 58, 59, 60] [(52, 0)] M M10 := by rw [eM10]; exact v_frw (by simp) fM9
      rcases v_iteS h with ⟨c, h⟩ | ⟨c, h⟩
      · exact v_frT fM10 (fw_X8_put_L115 h)
      · obtain ⟨hb, h⟩ := v_ckS h
        exact v_frT fM10 (fw_X8_put_L115 h)
theorem fw_X8_tasksOf_L47 {N : Nat} {x1 : Int32} {x2 : Int32} {x3 : Int32} {M : v_M} {out : Int32 × v_M} {k4 : Int32 → Int32 → Int32 → v_M → Option (Int32 × v_M)} (hk4 : ∀ (x1 : Int32) (x2 : Int32) (x3 : Int32) (M : v_M), k4 x1 x2 x3 M = some out → v_fr [] [] M out.2) (h : f_X8_tasksOf_L47 N k4 x1 x2 x3 M = some out) : v_fr [] [] M out.2 := by
  have fM : v_fr [] [] M M := v_frR
  unfold f_X8_tasksOf_L47 at h
  exact v_frT fM (hk4 _ _ _ _ h)
theorem fv_X8_tasksOf_L4 {N : Nat} {out : Int32 × v_M} (n : Nat) : ∀ (x1 : Int32) (x2 : Int32) (x3 : Int32) (M : v_M), f_X8_tasksOf_L4 N n x1 x2 x3 M = some out → v_fr [] [] M out.2 := by
  induction n with
  | zero => intro x1 x2 x3 M h; rw [f_X8_tasksOf_L4] at h; cases h
  | succ n ih =>
    intro x1 x2 x3 M h
    have fM : v_fr [] [] M M := v_frR
    rw [f_X8_tasksOf_L4] at h
    rcases v_iteS h with ⟨c, h⟩ | ⟨c, h⟩
    · have h := Option.some.inj h
      subst h
      exact fM
    · obtain ⟨y1, ey1, h⟩ := v_ltM h
      obtain ⟨z2, hz2, h⟩ := v_bdS h
      have fz2 : v_fr [] [] M z2.2 := v_frt (by simp) (by simp) fM (fr_X11_within hz2)
      rcases v_iteS h with ⟨c, h⟩ | ⟨c, h⟩
      · exact v_frT fz2 (fw_X8_tasksOf_L47 ih h)
      · obtain ⟨hb, h⟩ := v_ckS h
        rcases v_iteS h with ⟨c, h⟩ | ⟨c, h⟩
        · exact v_frT fz2 (fw_X8_tasksOf_L47 ih h)
        · obtain ⟨y3, ey3, h⟩ := v_ltM h
          exact v_frT fz2 (fw_X8_tasksOf_L47 ih h)
theorem fw_X8_tasksOf_L4 {N n : Nat} {x1 : Int32} {x2 : Int32} {x3 : Int32} {M : v_M} {out : Int32 × v_M} (h : f_X8_tasksOf_L4 N n x1 x2 x3 M = some out) : v_fr [] [] M out.2 := fv_X8_tasksOf_L4 n x1 x2 x3 M h
theorem fr_X8_tasksOf {N : Nat} {x1 : Int32} {M : v_M} {out : Int32 × v_M} (h : f_X8_tasksOf N x1 M = some out) : v_fr [] [] M out.2 := by
  have fM : v_fr [] [] M M := v_frR
  unfold f_X8_tasksOf at h
  exact v_frT fM (fw_X8_tasksOf_L4 h)
theorem fw_X8_forgetFrom_L140 {N : Nat} {x1 : Int32} {x3 : Int32} {x4 : Int32} {M : v_M} {out : Int32 × v_M} {k87 : Int32 → Int32 → Int32 → v_M → Option (Int32 × v_M)} (hk87 : ∀ (x1 : Int32) (x3 : Int32) (x4 : Int32) (M : v_M), k87 x1 x3 x4 M = some out → v_fr [53, 54, 55, 56, 57, 58, 59, 60, 61, 62, 63] [(52, 0), (52, 9)] M out.2) (h : f_X8_forgetFrom_L140 N k87 x1 x3 x4 M = some out) : v_fr [53, 54, 55, 56, 57, 58, 59, 60, 61, 62, 63] [(52, 0), (52, 9)] M out.2 := by
  have fM : v_fr [53, 54, 55, 56, 57, 58, 59, 60, 61, 62, 63] [(52, 0), (52, 9)] M M := v_frR
  unfold f_X8_forgetFrom_L140 at h
  exact v_frT fM (hk87 _ _ _ _ h)
theorem fv_X8_forgetFrom_L87 {N : Nat} {out : Int32 × v_M} (n : Nat) : ∀ (x1 : Int32) (x3 : Int32) (x4 : Int32) (M : v_M), f_X8_forgetFrom_L87 N n x1 x3 x4 M = some out → v_fr [53, 54, 55, 56, 57, 58, 59, 60, 61, 62, 63] [(52, 0), (52, 9)] M out.2 := by
  induction n with
  | zero => intro x1 x3 x4 M h; rw [f_X8_forgetFrom_L87] at h; cases h
  | succ n ih =>
    intro x1 x3 x4 M h
    have fM : v_fr [53, 54, 55, 56, 57, 58, 59, 60, 61, 62, 63] [(52, 0), (52, 9)] M M := v_frR
    rw [f_X8_forgetFrom_L87] at h
    rcases v_iteS h with ⟨c, h⟩ | ⟨c, h⟩
    · have h := Option.some.inj h
      subst h
      exact fM
    · rcases v_iteS h with ⟨c, h⟩ | ⟨c, h⟩
      · have h := Option.some.inj h
        subst h
        exact fM
      · obtain ⟨hb, h⟩ := v_ckS h
        rcases v_iteS h with ⟨c, h⟩ | ⟨c, h⟩
        · exact v_frT fM (fw_X8_forgetFrom_L140 ih h)
        · obtain ⟨hb, h⟩ := v_ckS h
          obtain ⟨hb, h⟩ := v_ckS h
          obtain ⟨hb, h⟩ := v_ckS h
          obtain ⟨z1, hz1, h⟩ := v_bdS h
          have fz1 : v_fr [53, 54, 55, 56, 57, 58, 59, 60, 61, 62, 63] [(52, 0), (52, 9)] M z1.2 := v_frt (by simp) (by simp) fM (fr_X8_putSeen hz1)
          exact v_frT fz1 (fw_X8_forgetFrom_L140 ih h)
theorem fw_X8_forgetFrom_L87 {N n : Nat} {x1 : Int32} {x3 : Int32} {x4 : Int32} {M : v_M} {out : Int32 × v_M} (h : f_X8_forgetFrom_L87 N n x1 x3 x4 M = some out) : v_fr [53, 54, 55, 56, 57, 58, 59, 60, 61, 62, 63] [(52, 0), (52, 9)] M out.2 := fv_X8_forgetFrom_L87 n x1 x3 x4 M h
theorem fw_X8_forgetFrom_L74 {N : Nat} {x1 : Int32} {M : v_M} {out : Int32 × v_M} (h : f_X8_forgetFrom_L74 N x1 M = some out) : v_fr [53, 54, 55, 56, 57, 58, 59, 60, 61, 62, 63] [(52, 0), (52, 9)] M out.2 := by
  have fM : v_fr [53, 54, 55, 56, 57, 58, 59, 60, 61, 62, 63] [(52, 0), (52, 9)] M M := v_frR
  unfold f_X8_forgetFrom_L74 at h
  obtain ⟨y1, ey1, h⟩ := v_ltM h
  obtain ⟨M2, eM2, h⟩ := v_ltM h
  have fM2 : v_fr [53, 54, 55, 56, 57, 58, 59, 60, 61, 62, 63] [(52, 0), (52, 9)] M M2 := by rw [eM2]; exact v_fro (by simp) fM
  exact v_frT fM2 (fw_X8_forgetFrom_L87 h)
theorem fw_X8_forgetFrom_L68 {N : Nat} {x1 : Int32} {x2 : Int32} {x3 : Int32} {M : v_M} {out : Int32 × v_M} {k20 : Int32 → Int32 → Int32 → v_M → Option (Int32 × v_M)} (hk20 : ∀ (x1 : Int32) (x2 : Int32) (x3 : Int32) (M : v_M), k20 x1 x2 x3 M = some out → v_fr [53, 54, 55, 56, 57, 58, 59, 60, 61, 62, 63] [(52, 0), (52, 9)] M out.2) (h : f_X8_forgetFrom_L68 N k20 x1 x2 x3 M = some out) : v_fr [53, 54, 55, 56, 57, 58, 59, 60, 61, 62, 63] [(52, 0), (52, 9)] M out.2 := by
  have fM : v_fr [53, 54, 55, 56, 57, 58, 59, 60, 61, 62, 63] [(52, 0), (52, 9)] M M := v_frR
  unfold f_X8_forgetFrom_L68 at h
  exact v_frT fM (hk20 _ _ _ _ h)
theorem fv_X8_forgetFrom_L20 {N : Nat} {out : Int32 × v_M} (n : Nat) : ∀ (x1 : Int32) (x2 : Int32) (x3 : Int32) (M : v_M), f_X8_forgetFrom_L20 N n x1 x2 x3 M = some out → v_fr [53, 54, 55, 56, 57, 58, 59, 60, 61, 62, 63] [(52, 0), (52, 9)] M out.2 := by
  induction n with
  | zero => intro x1 x2 x3 M h; rw [f_X8_forgetFrom_L20] at h; cases h
  | succ n ih =>
    intro x1 x2 x3 M h
    have fM : v_fr [53, 54, 55, 56, 57, 58, 59, 60, 61, 62, 63] [(52, 0), (52, 9)] M M := v_frR
    rw [f_X8_forgetFrom_L20] at h
    rcases v_iteS h with ⟨c, h⟩ | ⟨c, h⟩
    · exact v_frT fM (fw_X8_forgetFrom_L74 h)
    · rcases v_iteS h with ⟨c, h⟩ | ⟨c, h⟩
      · exact v_frT fM (fw_X8_forgetFrom_L74 h)
      · obtain ⟨hb, h⟩ := v_ckS h
        rcases v_iteS h with ⟨c, h⟩ | ⟨c, h⟩
        · exact v_frT fM (fw_X8_forgetFrom_L68 ih h)
        · obtain ⟨hb, h⟩ := v_ckS h
          obtain ⟨hb, h⟩ := v_ckS h
          obtain ⟨hb, h⟩ := v_ckS h
          obtain ⟨z1, hz1, h⟩ := v_bdS h
          have fz1 : v_fr [53, 54, 55, 56, 57, 58, 59, 60, 61, 62, 63] [(52, 0), (52, 9)] M z1.2 := v_frt (by simp) (by simp) fM (fr_X8_put hz1)
          exact v_frT fz1 (fw_X8_forgetFrom_L68 ih h)
theorem fw_X8_forgetFrom_L20 {N n : Nat} {x1 : Int32} {x2 : Int32} {x3 : Int32} {M : v_M} {out : Int32 × v_M} (h : f_X8_forgetFrom_L20 N n x1 x2 x3 M = some out) : v_fr [53, 54, 55, 56, 57, 58, 59, 60, 61, 62, 63] [(52, 0), (52, 9)] M out.2 := fv_X8_forgetFrom_L20 n x1 x2 x3 M h
theorem fr_X8_forgetFrom {N : Nat} {x1 : Int32} {M : v_M} {out : Int32 × v_M} (h : f_X8_forgetFrom N x1 M = some out) : v_fr [53, 54, 55, 56, 57, 58, 59, 60, 61, 62, 63] [(52, 0), (52, 9)] M out.2 := by
  have fM : v_fr [53, 54, 55, 56, 57, 58, 59, 60, 61, 62, 63] [(52, 0), (52, 9)] M M := v_frR
  unfold f_X8_forgetFrom at h
  obtain ⟨y1, ey1, h⟩ := v_ltM h
  obtain ⟨M2, eM2, h⟩ := v_ltM h
  have fM2 : v_fr [53, 54, 55, 56, 57, 58, 59, 60, 61, 62, 63] [(52, 0), (52, 9)] M M2 := by rw [eM2]; exact v_fro (by simp) fM
  obtain ⟨z3, hz3, h⟩ := v_bdS h
  have fz3 : v_fr [53, 54, 55, 56, 57, 58, 59, 60, 61, 62, 63] [(52, 0), (52, 9)] M z3.2 := v_frt (by simp) (by simp) fM2 (fr_J7_fill_53178 hz3)
  exact v_frT fz3 (fw_X8_forgetFrom_L20 h)
theorem fw_X9_splitNumber_L50 {N : Nat} {x2 : Int32} {t0 : Int32} {M : v_M} {out : Int32 × v_M} {k4 : Int32 → Int32 → v_M → Option (Int32 × v_M)} (hk4 : ∀ (x1 : Int32) (x2 : Int32) (M : v_M), k4 x1 x2 M = some out → v_fr [] [(36, 2)] M out.2) (h : f_X9_splitNumber_L50 N k4 x2 t0 M = some out) : v_fr [] [(36, 2)] M out.2 := by
  have fM : v_fr [] [(36, 2)] M M := v_frR
  unfold f_X9_splitNumber_L50 at h
  obtain ⟨M1, eM1, h⟩ := v_ltM h
  have fM1 : v_fr [] [(36, 2)] M M1 := by rw [eM1]; exact v_fro (by simp) fM
  exact v_frT fM1 (hk4 _ _ _ h)
theorem fv_X9_splitNumber_L4 {N : Nat} {out : Int32 × v_M} (n : Nat) : ∀ (x1 : Int32) (x2 : Int32) (M : v_M), f_X9_splitNumber_L4 N n x1 x2 M = some out → v_fr [] [(36, 2)] M out.2 := by
  induction n with
  | zero => intro x1 x2 M h; rw [f_X9_splitNumber_L4] at h; cases h
  | succ n ih =>
    intro x1 x2 M h
    have fM : v_fr [] [(36, 2)] M M := v_frR
    rw [f_X9_splitNumber_L4] at h
    rcases v_iteS h with ⟨c, h⟩ | ⟨c, h⟩
    · have h := Option.some.inj h
      subst h
      exact fM
    · obtain ⟨z1, hz1, h⟩ := v_bdS h
      have fz1 : v_fr [] [(36, 2)] M z1.2 := v_frt (by simp) (by simp) fM (fr_X9_byteAt hz1)
      obtain ⟨z2, hz2, h⟩ := v_bdS h
      have fz2 : v_fr [] [(36, 2)] M z2.2 := v_frt (by simp) (by simp) fz1 (fr_X9_isDigit hz2)
      rcases v_iteS h with ⟨c, h⟩ | ⟨c, h⟩
      · have h := Option.some.inj h
        subst h
        exact fz2
      · rcases v_iteS h with ⟨c, h⟩ | ⟨c, h⟩
        · exact v_frT fz2 (fw_X9_splitNumber_L50 ih h)
        · obtain ⟨z3, hz3, h⟩ := v_bdS h
          have fz3 : v_fr [] [(36, 2)] M z3.2 := v_frt (by simp) (by simp) fz2 (fr_X9_byteAt hz3)
          exact v_frT fz3 (fw_X9_splitNumber_L50 ih h)
theorem fw_X9_splitNumber_L4 {N n : Nat} {x1 : Int32} {x2 : Int32} {M : v_M} {out : Int32 × v_M} (h : f_X9_splitNumber_L4 N n x1 x2 M = some out) : v_fr [] [(36, 2)] M out.2 := fv_X9_splitNumber_L4 n x1 x2 M h
theorem fr_X9_splitNumber {N : Nat} {M : v_M} {out : Int32 × v_M} (h : f_X9_splitNumber N M = some out) : v_fr [] [(36, 2)] M out.2 := by
  have fM : v_fr [] [(36, 2)] M M := v_frR
  unfold f_X9_splitNumber at h
  exact v_frT fM (fw_X9_splitNumber_L4 h)
theorem fw_X9_splitWord_L109 {N : Nat} {x1 : Int32} {x2 : Int32} {x3 : Int32} {x4 : Int32} {M : v_M} {out : Int32 × v_M} {k51 : Int32 → Int32 → Int32 → Int32 → v_M → Option (Int32 × v_M)} (hk51 : ∀ (x1 : Int32) (x2 : Int32) (x3 : Int32) (x4 : Int32) (M : v_M), k51 x1 x2 x3 x4 M = some out → v_fr [] [(36, 2)] M out.2) (h : f_X9_splitWord_L109 N k51 x1 x2 x3 x4 M = some out) : v_fr [] [(36, 2)] M out.2 := by
  have fM : v_fr [] [(36, 2)] M M := v_frR
  unfold f_X9_splitWord_L109 at h
  exact v_frT fM (hk51 _ _ _ _ _ h)
theorem fw_X9_splitWord_L101 {N : Nat} {x1 : Int32} {x2 : Int32} {x4 : Int32} {M : v_M} {out : Int32 × v_M} {k51 : Int32 → Int32 → Int32 → Int32 → v_M → Option (Int32 × v_M)} (hk51 : ∀ (x1 : Int32) (x2 : Int32) (x3 : Int32) (x4 : Int32) (M : v_M), k51 x1 x2 x3 x4 M = some out → v_fr [] [(36, 2)] M out.2) (h : f_X9_splitWord_L101 N k51 x1 x2 x4 M = some out) : v_fr [] [(36, 2)] M out.2 := by
  have fM : v_fr [] [(36, 2)] M M := v_frR
  unfold f_X9_splitWord_L101 at h
  obtain ⟨y1, ey1, h⟩ := v_ltM h
  exact v_frT fM (fw_X9_splitWord_L109 hk51 h)
theorem fv_X9_splitWord_L51 {N : Nat} {out : Int32 × v_M} (n : Nat) : ∀ (x1 : Int32) (x2 : Int32) (x3 : Int32) (x4 : Int32) (M : v_M), f_X9_splitWord_L51 N n x1 x2 x3 x4 M = some out → v_fr [] [(36, 2)] M out.2 := by
  induction n with
  | zero => intro x1 x2 x3 x4 M h; rw [f_X9_splitWord_L51] at h; cases h
  | succ n ih =>
    intro x1 x2 x3 x4 M h
    have fM : v_fr [] [(36, 2)] M M := v_frR
    rw [f_X9_splitWord_L51] at h
    obtain ⟨z1, hz1, h⟩ := v_bdS h
    have fz1 : v_fr [] [(36, 2)] M z1.2 := v_frt (by simp) (by simp) fM (fr_J0_length_8abf5 hz1)
    rcases v_iteS h with ⟨c, h⟩ | ⟨c, h⟩
    · have h := Option.some.inj h
      subst h
      exact fz1
    · obtain ⟨z2, hz2, h⟩ := v_bdS h
      have fz2 : v_fr [] [(36, 2)] M z2.2 := v_frt (by simp) (by simp) fz1 (fr_J0_charAt_5068e hz2)
      rcases v_iteS h with ⟨c, h⟩ | ⟨c, h⟩
      · rcases v_iteS h with ⟨c, h⟩ | ⟨c, h⟩
        · obtain ⟨z3, hz3, h⟩ := v_bdS h
          have fz3 : v_fr [] [(36, 2)] M z3.2 := v_frt (by simp) (by simp) fz2 (fr_X9_isSame hz3)
          rcases v_iteS h with ⟨c, h⟩ | ⟨c, h⟩
          · exact v_frT fz3 (fw_X9_splitWord_L101 ih h)
          · have h := Option.some.inj h
            subst h
            exact fz3
        · exact v_frT fz2 (fw_X9_splitWord_L101 ih h)
      · exact v_frT fz2 (fw_X9_splitWord_L109 ih h)
theorem fw_X9_splitWord_L51 {N n : Nat} {x1 : Int32} {x2 : Int32} {x3 : Int32} {x4 : Int32} {M : v_M} {out : Int32 × v_M} (h : f_X9_splitWord_L51 N n x1 x2 x3 x4 M = some out) : v_fr [] [(36, 2)] M out.2 := fv_X9_splitWord_L51 n x1 x2 x3 x4 M h
theorem fw_X9_splitWord_L44 {N : Nat} {x1 : Int32} {M : v_M} {out : Int32 × v_M} (h : f_X9_splitWord_L44 N x1 M = some out) : v_fr [] [(36, 2)] M out.2 := by
  have fM : v_fr [] [(36, 2)] M M := v_frR
  unfold f_X9_splitWord_L44 at h
  exact v_frT fM (fw_X9_splitWord_L51 h)
theorem fv_X9_splitWord_L7 {N : Nat} {out : Int32 × v_M} (n : Nat) : ∀ (x1 : Int32) (x2 : Int32) (M : v_M), f_X9_splitWord_L7 N n x1 x2 M = some out → v_fr [] [(36, 2)] M out.2 := by
  induction n with
  | zero => intro x1 x2 M h; rw [f_X9_splitWord_L7] at h; cases h
  | succ n ih =>
    intro x1 x2 M h
    have fM : v_fr [] [(36, 2)] M M := v_frR
    rw [f_X9_splitWord_L7] at h
    rcases v_iteS h with ⟨c, h⟩ | ⟨c, h⟩
    · exact v_frT fM (fw_X9_splitWord_L44 h)
    · obtain ⟨z1, hz1, h⟩ := v_bdS h
      have fz1 : v_fr [] [(36, 2)] M z1.2 := v_frt (by simp) (by simp) fM (fr_X9_byteAt hz1)
      obtain ⟨z2, hz2, h⟩ := v_bdS h
      have fz2 : v_fr [] [(36, 2)] M z2.2 := v_frt (by simp) (by simp) fz1 (fr_X9_isLetter hz2)
      rcases v_iteS h with ⟨c, h⟩ | ⟨c, h⟩
      · exact v_frT fz2 (fw_X9_splitWord_L44 h)
      · obtain ⟨M3, eM3, h⟩ := v_ltM h
        have fM3 : v_fr [] [(36, 2)] M M3 := by rw [eM3]; exact v_fro (by simp) fz2
        exact v_frT fM3 (ih _ _ _ h)
theorem fw_X9_splitWord_L7 {N n : Nat} {x1 : Int32} {x2 : Int32} {M : v_M} {out : Int32 × v_M} (h : f_X9_splitWord_L7 N n x1 x2 M = some out) : v_fr [] [(36, 2)] M out.2 := fv_X9_splitWord_L7 n x1 x2 M h
theorem fr_X9_splitWord {N : Nat} {M : v_M} {out : Int32 × v_M} (h : f_X9_splitWord N M = some out) : v_fr [] [(36, 2)] M out.2 := by
  have fM : v_fr [] [(36, 2)] M M := v_frR
  unfold f_X9_splitWord at h
  obtain ⟨y1, ey1, h⟩ := v_ltM h
  exact v_frT fM (fw_X9_splitWord_L7 h)
theorem fw_X10_learn_L109 {N : Nat} {x2 : Int32} {M : v_M} {out : Int32 × v_M} {k20 : Int32 → v_M → Option (Int32 × v_M)} (hk20 : ∀ (x2 : Int32) (M : v_M), k20 x2 M = some out → v_fr [65, 66] [] M out.2) (h : f_X10_learn_L109 N k20 x2 M = some out) : v_fr [65, 66] [] M out.2 := by
  have fM : v_fr [65, 66] [] M M := v_frR
  unfold f_X10_learn_L109 at h
  exact v_frT fM (hk20 _ _ h)
theorem fv_X10_learn_L20 {N : Nat} {out : Int32 × v_M} (n : Nat) : ∀ (x2 : Int32) (M : v_M), f_X10_learn_L20 N n x2 M = some out → v_fr [65, 66] [] M out.2 := by
  induction n with
  | zero => intro x2 M h; rw [f_X10_learn_L20] at h; cases h
  | succ n ih =>
    intro x2 M h
    have fM : v_fr [65, 66] [] M M := v_frR
    rw [f_X10_learn_L20] at h
    rcases v_iteS h with ⟨c, h⟩ | ⟨c, h⟩
    · have h := Option.some.inj h
      subst h
      exact fM
    · rcases v_iteS h with ⟨c, h⟩ | ⟨c, h⟩
      · have h := Option.some.inj h
        subst h
        exact fM
      · obtain ⟨hb, h⟩ := v_ckS h
        obtain ⟨y1, ey1, h⟩ := v_ltM h
        obtain ⟨hb, h⟩ := v_ckS h
        obtain ⟨y2, ey2, h⟩ := v_ltM h
        obtain ⟨z3, hz3, h⟩ := v_bdS h
        have fz3 : v_fr [65, 66] [] M z3.2 := v_frt (by simp) (by simp) fM (fr_X11_within hz3)
        rcases v_iteS h with ⟨c, h⟩ | ⟨c, h⟩
        · exact v_frT fz3 (fw_X10_learn_L109 ih h)
        · obtain ⟨hb, h⟩ := v_ckS h
          rcases v_iteS h with ⟨c, h⟩ | ⟨c, h⟩
          · obtain ⟨hb, h⟩ := v_ckS h
            obtain ⟨hb, h⟩ := v_ckS h
            obtain ⟨M4, eM4, h⟩ := v_ltM h
            have fM4 : v_fr [65, 66] [] M M4 := by rw [eM4]; exact v_frw (by simp) fz3
            exact v_frT fM4 (fw_X10_learn_L109 ih h)
          · obtain ⟨hb, h⟩ := v_ckS h
            obtain ⟨hb, h⟩ := v_ckS h
            obtain ⟨M5, eM5, h⟩ := v_ltM h
            have fM5 : v_fr [65, 66] [] M M5 := by rw [eM5]; exact v_frw (by simp) fz3
            exact v_frT fM5 (fw_X10_learn_L109 ih h)
theorem fw_X10_learn_L20 {N n : Nat} {x2 : Int32} {M : v_M} {out : Int32 × v_M} (h : f_X10_learn_L20 N n x2 M = some out) : v_fr [65, 66] [] M out.2 := fv_X10_learn_L20 n x2 M h
theorem fr_X10_learn {N : Nat} {M : v_M} {out : Int32 × v_M} (h : f_X10_learn N M = some out) : v_fr [65, 66] [] M out.2 := by
  have fM : v_fr [65, 66] [] M M := v_frR
  unfold f_X10_learn at h
  obtain ⟨z1, hz1, h⟩ := v_bdS h
  have fz1 : v_fr [65, 66] [] M z1.2 := v_frt (by simp) (by simp) fM (fr_J7_fill_53178 hz1)
  obtain ⟨z2, hz2, h⟩ := v_bdS h
  have fz2 : v_fr [65, 66] [] M z2.2 := v_frt (by simp) (by simp) fz1 (fr_J7_fill_53178 hz2)
  exact v_frT fz2 (fw_X10_learn_L20 h)
theorem fr_X10_mayBeTrue {N : Nat} {x2 : Int32} {M : v_M} {out : Int32 × v_M} (h : f_X10_mayBeTrue N x2 M = some out) : v_fr [] [] M out.2 := by
  have fM : v_fr [] [] M M := v_frR
  unfold f_X10_mayBeTrue at h
  obtain ⟨z1, hz1, h⟩ := v_bdS h
  have fz1 : v_fr [] [] M z1.2 := v_frt (by simp) (by simp) fM (fr_X11_within hz1)
  rcases v_iteS h with ⟨c, h⟩ | ⟨c, h⟩
  · obtain ⟨hb, h⟩ := v_ckS h
    have h := Option.some.inj h
    subst h
    exact fz1
  · obtain ⟨hb, h⟩ := v_ckS h
    obtain ⟨hb, h⟩ := v_ckS h
    obtain ⟨hb, h⟩ := v_ckS h
    rcases v_iteS h with ⟨c, h⟩ | ⟨c, h⟩
    · obtain ⟨hb, h⟩ := v_ckS h
      have h := Option.some.inj h
      subst h
      exact fz1
    · obtain ⟨hb, h⟩ := v_ckS h
      have h := Option.some.inj h
      subst h
      exact fz1
theorem fr_X10_serves {N : Nat} {x2 : Int32} {M : v_M} {out : Int32 × v_M} (h : f_X10_serves N x2 M = some out) : v_fr [] [] M out.2 := by
  have fM : v_fr [] [] M M := v_frR
  unfold f_X10_serves at h
  obtain ⟨z1, hz1, h⟩ := v_bdS h
  have fz1 : v_fr [] [] M z1.2 := v_frt (by simp) (by simp) fM (fr_X10_mayBeTrue hz1)
  rcases v_iteS h with ⟨c, h⟩ | ⟨c, h⟩
  · obtain ⟨hb, h⟩ := v_ckS h
    have h := Option.some.inj h
    subst h
    exact fz1
  · obtain ⟨hb, h⟩ := v_ckS h
    obtain ⟨hb, h⟩ := v_ckS h
    obtain ⟨y2, ey2, h⟩ := v_ltM h
    rcases v_iteS h with ⟨c, h⟩ | ⟨c, h⟩
    · obtain ⟨hb, h⟩ := v_ckS h
      have h := Option.some.inj h
      subst h
      exact fz1
    · obtain ⟨hb, h⟩ := v_ckS h
      rcases v_iteS h with ⟨c, h⟩ | ⟨c, h⟩
      · obtain ⟨hb, h⟩ := v_ckS h
        have h := Option.some.inj h
        subst h
        exact fz1
      · obtain ⟨hb, h⟩ := v_ckS h
        have h := Option.some.inj h
        subst h
        exact fz1
theorem fw_X10_leastFalse_L65 {N : Nat} {x2 : Int32} {x3 : Int32} {M : v_M} {out : Int32 × v_M} {k12 : Int32 → Int32 → v_M → Option (Int32 × v_M)} (hk12 : ∀ (x2 : Int32) (x3 : Int32) (M : v_M), k12 x2 x3 M = some out → v_fr [69] [] M out.2) (h : f_X10_leastFalse_L65 N k12 x2 x3 M = some out) : v_fr [69] [] M out.2 := by
  have fM : v_fr [69] [] M M := v_frR
  unfold f_X10_leastFalse_L65 at h
  exact v_frT fM (hk12 _ _ _ h)
theorem fw_X10_leastFalse_L62 {N : Nat} {x2 : Int32} {x3 : Int32} {M : v_M} {out : Int32 × v_M} {k12 : Int32 → Int32 → v_M → Option (Int32 × v_M)} (hk12 : ∀ (x2 : Int32) (x3 : Int32) (M : v_M), k12 x2 x3 M = some out → v_fr [69] [] M out.2) (h : f_X10_leastFalse_L62 N k12 x2 x3 M = some out) : v_fr [69] [] M out.2 := by
  have fM : v_fr [69] [] M M := v_frR
  unfold f_X10_leastFalse_L62 at h
  exact v_frT fM (fw_X10_leastFalse_L65 hk12 h)
theorem fv_X10_leastFalse_L12 {N : Nat} {out : Int32 × v_M} (n : Nat) : ∀ (x2 : Int32) (x3 : Int32) (M : v_M), f_X10_leastFalse_L12 N n x2 x3 M = some out → v_fr [69] [] M out.2 := by
  induction n with
  | zero => intro x2 x3 M h; rw [f_X10_leastFalse_L12] at h; cases h
  | succ n ih =>
    intro x2 x3 M h
    have fM : v_fr [69] [] M M := v_frR
    rw [f_X10_leastFalse_L12] at h
    rcases v_iteS h with ⟨c, h⟩ | ⟨c, h⟩
    · have h := Option.some.inj h
      subst h
      exact fM
    · obtain ⟨hb, h⟩ := v_ckS h
      obtain ⟨y1, ey1, h⟩ := v_ltM h
      obtain ⟨z2, hz2, h⟩ := v_bdS h
      have fz2 : v_fr [69] [] M z2.2 := v_frt (by simp) (by simp) fM (fr_X10_mayBeTrue hz2)
      rcases v_iteS h with ⟨c, h⟩ | ⟨c, h⟩
      · exact v_frT fz2 (fw_X10_leastFalse_L62 ih h)
      · obtain ⟨hb, h⟩ := v_ckS h
        rcases v_iteS h with ⟨c, h⟩ | ⟨c, h⟩
        · exact v_frT fz2 (fw_X10_leastFalse_L62 ih h)
        · obtain ⟨hb, h⟩ := v_ckS h
          obtain ⟨hb, h⟩ := v_ckS h
          obtain ⟨M3, eM3, h⟩ := v_ltM h
          have fM3 : v_fr [69] [] M M3 := by rw [eM3]; exact v_frw (by simp) fz2
          exact v_frT fM3 (fw_X10_leastFalse_L65 ih h)
theorem fw_X10_leastFalse_L12 {N n : Nat} {x2 : Int32} {x3 : Int32} {M : v_M} {out : Int32 × v_M} (h : f_X10_leastFalse_L12 N n x2 x3 M = some out) : v_fr [69] [] M out.2 := fv_X10_leastFalse_L12 n x2 x3 M h
theorem fr_X10_leastFalse {N : Nat} {M : v_M} {out : Int32 × v_M} (h : f_X10_leastFalse N M = some out) : v_fr [69] [] M out.2 := by
  have fM : v_fr [69] [] M M := v_frR
  unfold f_X10_leastFalse at h
  obtain ⟨z1, hz1, h⟩ := v_bdS h
  have fz1 : v_fr [69] [] M z1.2 := v_frt (by simp) (by simp) fM (fr_J7_fill_53178 hz1)
  exact v_frT fz1 (fw_X10_leastFalse_L12 h)
theorem fw_X10_choose_L158 {N : Nat} {x3 : Int32} {x4 : Int32} {M : v_M} {out : Int32 × v_M} {k20 : Int32 → Int32 → v_M → Option (Int32 × v_M)} (hk20 : ∀ (x3 : Int32) (x4 : Int32) (M : v_M), k20 x3 x4 M = some out → v_fr [67, 68, 69, 70] [] M out.2) (h : f_X10_choose_L158 N k20 x3 x4 M = some out) : v_fr [67, 68, 69, 70] [] M out.2 := by
  have fM : v_fr [67, 68, 69, 70] [] M M := v_frR
  unfold f_X10_choose_L158 at h
  exact v_frT fM (hk20 _ _ _ h)
theorem fw_X10_choose_L143 {N : Nat} {x3 : Int32} {x4 : Int32} {x5 : Int32} {x6 : Int32} {M : v_M} {out : Int32 × v_M} {k20 : Int32 → Int32 → v_M → Option (Int32 × v_M)} (hk20 : ∀ (x3 : Int32) (x4 : Int32) (M : v_M), k20 x3 x4 M = some out → v_fr [67, 68, 69, 70] [] M out.2) {k53 : Int32 → Int32 → Int32 → Int32 → v_M → Option (Int32 × v_M)} (hk53 : ∀ (x3 : Int32) (x4 : Int32) (x5 : Int32) (x6 : Int32) (M : v_M), k53 x3 x4 x5 x6 M = some out → v_fr [67, 68, 69, 70] [] M out.2) (h : f_X10_choose_L143 N k20 k53 x3 x4 x5 x6 M = some out) : v_fr [67, 68, 69, 70] [] M out.2 := by
  have fM : v_fr [67, 68, 69, 70] [] M M := v_frR
  unfold f_X10_choose_L143 at h
  obtain ⟨hb, h⟩ := v_ckS h
  obtain ⟨y1, ey1, h⟩ := v_ltM h
  exact v_frT fM (hk53 _ _ _ _ _ h)
theorem fv_X10_choose_L53 {N : Nat} {out : Int32 × v_M} {k20 : Int32 → Int32 → v_M → Option (Int32 × v_M)} (hk20 : ∀ (x3 : Int32) (x4 : Int32) (M : v_M), k20 x3 x4 M = some out → v_fr [67, 68, 69, 70] [] M out.2) (n : Nat) : ∀ (x3 : Int32) (x4 : Int32) (x5 : Int32) (x6 : Int32) (M : v_M), f_X10_choose_L53 N k20 n x3 x4 x5 x6 M = some out → v_fr [67, 68, 69, 70] [] M out.2 := by
  induction n with
  | zero => intro x3 x4 x5 x6 M h; rw [f_X10_choose_L53] at h; cases h
  | succ n ih =>
    intro x3 x4 x5 x6 M h
    have fM : v_fr [67, 68, 69, 70] [] M M := v_frR
    rw [f_X10_choose_L53] at h
    rcases v_iteS h with ⟨c, h⟩ | ⟨c, h⟩
    · exact v_frT fM (fw_X10_choose_L158 hk20 h)
    · rcases v_iteS h with ⟨c, h⟩ | ⟨c, h⟩
      · exact v_frT fM (fw_X10_choose_L158 hk20 h)
      · obtain ⟨hb, h⟩ := v_ckS h
        obtain ⟨y1, ey1, h⟩ := v_ltM h
        rcases v_iteS h with ⟨c, h⟩ | ⟨c, h⟩
        · exact v_frT fM (fw_X10_choose_L143 hk20 ih h)
        · obtain ⟨hb, h⟩ := v_ckS h
          rcases v_iteS h with ⟨c, h⟩ | ⟨c, h⟩
          · obtain ⟨z2, hz2, h⟩ := v_bdS h
            have fz2 : v_fr [67, 68, 69, 70] [] M z2.2 := v_frt (by simp) (by simp) fM (fr_X10_serves hz2)
            rcases v_iteS h with ⟨c, h⟩ | ⟨c, h⟩
            · exact v_frT fz2 (fw_X10_choose_L143 hk20 ih h)
            · obtain ⟨hb, h⟩ := v_ckS h
              obtain ⟨M3, eM3, h⟩ := v_ltM h
              have fM3 : v_fr [67, 68, 69, 70] [] M M3 := by rw [eM3]; exact v_frw (by simp) fz2
              obtain ⟨hb, h⟩ := v_ckS h
              rcases v_iteS h with ⟨c, h⟩ | ⟨c, h⟩
              · obtain ⟨z4, hz4, h⟩ := v_bdS h
                have fz4 : v_fr [67, 68, 69, 70] [] M z4.2 := v_frt (by simp) (by simp) fM3 (fr_X10_queueHolders hz4)
                obtain ⟨y5, ey5, h⟩ := v_ltM h
                exact v_frT fz4 (fw_X10_choose_L143 hk20 ih h)
              · obtain ⟨z6, hz6, h⟩ := v_bdS h
                have fz6 : v_fr [67, 68, 69, 70] [] M z6.2 := v_frt (by simp) (by simp) fM3 (fr_X10_moveChoices hz6)
                obtain ⟨hb, h⟩ := v_ckS h
                have h := Option.some.inj h
                subst h
                exact fz6
          · exact v_frT fM (fw_X10_choose_L143 hk20 ih h)
theorem fw_X10_choose_L53 {N n : Nat} {x3 : Int32} {x4 : Int32} {x5 : Int32} {x6 : Int32} {M : v_M} {out : Int32 × v_M} {k20 : Int32 → Int32 → v_M → Option (Int32 × v_M)} (hk20 : ∀ (x3 : Int32) (x4 : Int32) (M : v_M), k20 x3 x4 M = some out → v_fr [67, 68, 69, 70] [] M out.2) (h : f_X10_choose_L53 N k20 n x3 x4 x5 x6 M = some out) : v_fr [67, 68, 69, 70] [] M out.2 := fv_X10_choose_L53 hk20 n x3 x4 x5 x6 M h
theorem fv_X10_choose_L20 {N : Nat} {out : Int32 × v_M} (n : Nat) : ∀ (x3 : Int32) (x4 : Int32) (M : v_M), f_X10_choose_L20 N n x3 x4 M = some out → v_fr [67, 68, 69, 70] [] M out.2 := by
  induction n with
  | zero => intro x3 x4 M h; rw [f_X10_choose_L20] at h; cases h
  | succ n ih =>
    intro x3 x4 M h
    have fM : v_fr [67, 68, 69, 70] [] M M := v_frR
    rw [f_X10_choose_L20] at h
    rcases v_iteS h with ⟨c, h⟩ | ⟨c, h⟩
    · obtain ⟨hb, h⟩ := v_ckS h
      have h := Option.some.inj h
      subst h
      exact fM
    · rcases v_iteS h with ⟨c, h⟩ | ⟨c, h⟩
      · obtain ⟨hb, h⟩ := v_ckS h
        have h := Option.some.inj h
        subst h
        exact fM
      · obtain ⟨hb, h⟩ := v_ckS h
        obtain ⟨hb, h⟩ := v_ckS h
        obtain ⟨y1, ey1, h⟩ := v_ltM h
        exact v_frT fM (fw_X10_choose_L53 ih h)
theorem fw_X10_choose_L20 {N n : Nat} {x3 : Int32} {x4 : Int32} {M : v_M} {out : Int32 × v_M} (h : f_X10_choose_L20 N n x3 x4 M = some out) : v_fr [67, 68, 69, 70] [] M out.2 := fv_X10_choose_L20 n x3 x4 M h
theorem fr_X10_choose {N : Nat} {x2 : Int32} {M : v_M} {out : Int32 × v_M} (h : f_X10_choose N x2 M = some out) : v_fr [67, 68, 69, 70] [] M out.2 := by
  have fM : v_fr [67, 68, 69, 70] [] M M := v_frR
  unfold f_X10_choose at h
  obtain ⟨z1, hz1, h⟩ := v_bdS h
  have fz1 : v_fr [67, 68, 69, 70] [] M z1.2 := v_frt (by simp) (by simp) fM (fr_J7_fill_53178 hz1)
  obtain ⟨hb, h⟩ := v_ckS h
  obtain ⟨M2, eM2, h⟩ := v_ltM h
  have fM2 : v_fr [67, 68, 69, 70] [] M M2 := by rw [eM2]; exact v_frw (by simp) fz1
  exact v_frT fM2 (fw_X10_choose_L20 h)
theorem fr_X11_clock {N : Nat} {x1 : Int32} {M : v_M} {out : Int32 × v_M} (h : f_X11_clock N x1 M = some out) : v_fr [] [(0, 0)] M out.2 := by
  have fM : v_fr [] [(0, 0)] M M := v_frR
  unfold f_X11_clock at h
  obtain ⟨z1, hz1, h⟩ := v_bdS h
  have fz1 : v_fr [] [(0, 0)] M z1.2 := v_frt (by simp) (by simp) fM (fr_X11_within hz1)
  rcases v_iteS h with ⟨c, h⟩ | ⟨c, h⟩
  · obtain ⟨hb, h⟩ := v_ckS h
    have h := Option.some.inj h
    subst h
    exact fz1
  · obtain ⟨M2, eM2, h⟩ := v_ltM h
    have fM2 : v_fr [] [(0, 0)] M M2 := by rw [eM2]; exact v_fro (by simp) fz1
    obtain ⟨hb, h⟩ := v_ckS h
    have h := Option.some.inj h
    subst h
    exact fM2
theorem fw_X11_part_L86 {N : Nat} {x1 : Int32} {x2 : Int32} {x3 : Int32} {x4 : Int32} {x5 : Int32} {x6 : Int32} {x7 : Int32} {x8 : Int32} {t0 : Int32} {M : v_M} {out : Int32 × v_M} (h : f_X11_part_L86 N x1 x2 x3 x4 x5 x6 x7 x8 t0 M = some out) : v_fr [2, 3, 4, 5, 6, 7, 8, 9] [(1, 0)] M out.2 := by
  have fM : v_fr [2, 3, 4, 5, 6, 7, 8, 9] [(1, 0)] M M := v_frR
  unfold f_X11_part_L86 at h
  rcases v_iteS h with ⟨c, h⟩ | ⟨c, h⟩
  · have h := Option.some.inj h
    subst h
    exact fM
  · rcases v_iteS h with ⟨c, h⟩ | ⟨c, h⟩
    · have h := Option.some.inj h
      subst h
      exact fM
    · obtain ⟨z1, hz1, h⟩ := v_bdS h
      have fz1 : v_fr [2, 3, 4, 5, 6, 7, 8, 9] [(1, 0)] M z1.2 := v_frt (by simp) (by simp) fM (fr_X3_takesKind hz1)
      rcases v_iteS h with ⟨c, h⟩ | ⟨c, h⟩
      · have h := Option.some.inj h
        subst h
        exact fz1
      · obtain ⟨z2, hz2, h⟩ := v_bdS h
        have fz2 : v_fr [2, 3, 4, 5, 6, 7, 8, 9] [(1, 0)] M z2.2 := v_frt (by simp) (by simp) fz1 (fr_X3_add hz2)
        have h := Option.some.inj h
        subst h
        exact fz2
theorem fw_X11_part_L85 {N : Nat} {x1 : Int32} {x2 : Int32} {x3 : Int32} {x4 : Int32} {x5 : Int32} {x6 : Int32} {x7 : Int32} {x8 : Int32} {M : v_M} {out : Int32 × v_M} (h : f_X11_part_L85 N x1 x2 x3 x4 x5 x6 x7 x8 M = some out) : v_fr [2, 3, 4, 5, 6, 7, 8, 9] [(1, 0)] M out.2 := by
  have fM : v_fr [2, 3, 4, 5, 6, 7, 8, 9] [(1, 0)] M M := v_frR
  unfold f_X11_part_L85 at h
  exact v_frT fM (fw_X11_part_L86 h)
theorem fw_X11_part_L43 {N : Nat} {x1 : Int32} {x2 : Int32} {x3 : Int32} {x4 : Int32} {x5 : Int32} {x6 : Int32} {x7 : Int32} {t0 : Int32} {M : v_M} {out : Int32 × v_M} (h : f_X11_part_L43 N x1 x2 x3 x4 x5 x6 x7 t0 M = some out) : v_fr [2, 3, 4, 5, 6, 7, 8, 9] [(1, 0)] M out.2 := by
  have fM : v_fr [2, 3, 4, 5, 6, 7, 8, 9] [(1, 0)] M M := v_frR
  unfold f_X11_part_L43 at h
  obtain ⟨z1, hz1, h⟩ := v_bdS h
  have fz1 : v_fr [2, 3, 4, 5, 6, 7, 8, 9] [(1, 0)] M z1.2 := v_frt (by simp) (by simp) fM (fr_X11_within hz1)
  rcases v_iteS h with ⟨c, h⟩ | ⟨c, h⟩
  · exact v_frT fz1 (fw_X11_part_L85 h)
  · obtain ⟨z2, hz2, h⟩ := v_bdS h
    have fz2 : v_fr [2, 3, 4, 5, 6, 7, 8, 9] [(1, 0)] M z2.2 := v_frt (by simp) (by simp) fz1 (fr_X11_within hz2)
    rcases v_iteS h with ⟨c, h⟩ | ⟨c, h⟩
    · exact v_frT fz2 (fw_X11_part_L85 h)
    · obtain ⟨z3, hz3, h⟩ := v_bdS h
      have fz3 : v_fr [2, 3, 4, 5, 6, 7, 8, 9] [(1, 0)] M z3.2 := v_frt (by simp) (by simp) fz2 (fr_X11_within hz3)
      rcases v_iteS h with ⟨c, h⟩ | ⟨c, h⟩
      · exact v_frT fz3 (fw_X11_part_L85 h)
      · exact v_frT fz3 (fw_X11_part_L86 h)
theorem fw_X11_part_L42 {N : Nat} {x1 : Int32} {x2 : Int32} {x3 : Int32} {x4 : Int32} {x5 : Int32} {x6 : Int32} {x7 : Int32} {M : v_M} {out : Int32 × v_M} (h : f_X11_part_L42 N x1 x2 x3 x4 x5 x6 x7 M = some out) : v_fr [2, 3, 4, 5, 6, 7, 8, 9] [(1, 0)] M out.2 := by
  have fM : v_fr [2, 3, 4, 5, 6, 7, 8, 9] [(1, 0)] M M := v_frR
  unfold f_X11_part_L42 at h
  exact v_frT fM (fw_X11_part_L43 h)
theorem fr_X11_part {N : Nat} {x1 : Int32} {x2 : Int32} {x3 : Int32} {x4 : Int32} {x5 : Int32} {x6 : Int32} {x7 : Int32} {M : v_M} {out : Int32 × v_M} (h : f_X11_part N x1 x2 x3 x4 x5 x6 x7 M = some out) : v_fr [2, 3, 4, 5, 6, 7, 8, 9] [(1, 0)] M out.2 := by
  have fM : v_fr [2, 3, 4, 5, 6, 7, 8, 9] [(1, 0)] M M := v_frR
  unfold f_X11_part at h
  obtain ⟨z1, hz1, h⟩ := v_bdS h
  have fz1 : v_fr [2, 3, 4, 5, 6, 7, 8, 9] [(1, 0)] M z1.2 := v_frt (by simp) (by simp) fM (fr_X11_within hz1)
  rcases v_iteS h with ⟨c, h⟩ | ⟨c, h⟩
  · exact v_frT fz1 (fw_X11_part_L42 h)
  · obtain ⟨hb, h⟩ := v_ckS h
    obtain ⟨z2, hz2, h⟩ := v_bdS h
    have fz2 : v_fr [2, 3, 4, 5, 6, 7, 8, 9] [(1, 0)] M z2.2 := v_frt (by simp) (by simp) fz1 (fr_X11_within hz2)
    rcases v_iteS h with ⟨c, h⟩ | ⟨c, h⟩
    · exact v_frT fz2 (fw_X11_part_L42 h)
    · obtain ⟨hb, h⟩ := v_ckS h
      obtain ⟨z3, hz3, h⟩ := v_bdS h
      have fz3 : v_fr [2, 3, 4, 5, 6, 7, 8, 9] [(1, 0)] M z3.2 := v_frt (by simp) (by simp) fz2 (fr_X11_within hz3)
      rcases v_iteS h with ⟨c, h⟩ | ⟨c, h⟩
      · exact v_frT fz3 (fw_X11_part_L42 h)
      · exact v_frT fz3 (fw_X11_part_L43 h)
theorem fw_X11_turn_L46 {N : Nat} {x1 : Int32} {x2 : Int32} {x3 : Int32} {x4 : Int32} {M : v_M} {out : Int32 × v_M} (h : f_X11_turn_L46 N x1 x2 x3 x4 M = some out) : v_fr [12, 13] [] M out.2 := by
  have fM : v_fr [12, 13] [] M M := v_frR
  unfold f_X11_turn_L46 at h
  rcases v_iteS h with ⟨c, h⟩ | ⟨c, h⟩
  · obtain ⟨z1, hz1, h⟩ := v_bdS h
    have fz1 : v_fr [12, 13] [] M z1.2 := v_frt (by simp) (by simp) fM (fr_X11_within hz1)
    rcases v_iteS h with ⟨c, h⟩ | ⟨c, h⟩
    · have h := Option.some.inj h
      subst h
      exact fz1
    · obtain ⟨z2, hz2, h⟩ := v_bdS h
      have fz2 : v_fr [12, 13] [] M z2.2 := v_frt (by simp) (by simp) fz1 (fr_X4_spot hz2)
      obtain ⟨z3, hz3, h⟩ := v_bdS h
      have fz3 : v_fr [12, 13] [] M z3.2 := v_frt (by simp) (by simp) fz2 (fr_X11_swap hz3)
      have h := Option.some.inj h
      subst h
      exact fz3
  · have h := Option.some.inj h
    subst h
    exact fM
theorem fr_X11_turn {N : Nat} {x1 : Int32} {x2 : Int32} {x3 : Int32} {x4 : Int32} {M : v_M} {out : Int32 × v_M} (h : f_X11_turn N x1 x2 x3 x4 M = some out) : v_fr [12, 13] [] M out.2 := by
  have fM : v_fr [12, 13] [] M M := v_frR
  unfold f_X11_turn at h
  obtain ⟨z1, hz1, h⟩ := v_bdS h
  have fz1 : v_fr [12, 13] [] M z1.2 := v_frt (by simp) (by simp) fM (fr_X11_hasPartOf hz1)
  rcases v_iteS h with ⟨c, h⟩ | ⟨c, h⟩
  · have h := Option.some.inj h
    subst h
    exact fz1
  · rcases v_iteS h with ⟨c, h⟩ | ⟨c, h⟩
    · obtain ⟨z2, hz2, h⟩ := v_bdS h
      have fz2 : v_fr [12, 13] [] M z2.2 := v_frt (by simp) (by simp) fz1 (fr_X11_within hz2)
      rcases v_iteS h with ⟨c, h⟩ | ⟨c, h⟩
      · exact v_frT fz2 (fw_X11_turn_L46 h)
      · obtain ⟨z3, hz3, h⟩ := v_bdS h
        have fz3 : v_fr [12, 13] [] M z3.2 := v_frt (by simp) (by simp) fz2 (fr_X4_spot hz3)
        obtain ⟨z4, hz4, h⟩ := v_bdS h
        have fz4 : v_fr [12, 13] [] M z4.2 := v_frt (by simp) (by simp) fz3 (fr_X11_swap hz4)
        have h := Option.some.inj h
        subst h
        exact fz4
    · exact v_frT fz1 (fw_X11_turn_L46 h)
theorem fr_X11_anew {N : Nat} {x1 : Int32} {x2 : Int32} {M : v_M} {out : Int32 × v_M} (h : f_X11_anew N x1 x2 M = some out) : v_fr [14] [] M out.2 := by
  have fM : v_fr [14] [] M M := v_frR
  unfold f_X11_anew at h
  obtain ⟨z1, hz1, h⟩ := v_bdS h
  have fz1 : v_fr [14] [] M z1.2 := v_frt (by simp) (by simp) fM (fr_X11_hasPartOf hz1)
  rcases v_iteS h with ⟨c, h⟩ | ⟨c, h⟩
  · have h := Option.some.inj h
    subst h
    exact fz1
  · obtain ⟨hb, h⟩ := v_ckS h
    rcases v_iteS h with ⟨c, h⟩ | ⟨c, h⟩
    · obtain ⟨z2, hz2, h⟩ := v_bdS h
      have fz2 : v_fr [14] [] M z2.2 := v_frt (by simp) (by simp) fz1 (fr_X4_spot hz2)
      obtain ⟨z3, hz3, h⟩ := v_bdS h
      have fz3 : v_fr [14] [] M z3.2 := v_frt (by simp) (by simp) fz2 (fr_X11_swap hz3)
      have h := Option.some.inj h
      subst h
      exact fz3
    · have h := Option.some.inj h
      subst h
      exact fz1
theorem fr_X11_release {N : Nat} {x1 : Int32} {M : v_M} {out : Int32 × v_M} (h : f_X11_release N x1 M = some out) : v_fr [15] [] M out.2 := by
  have fM : v_fr [15] [] M M := v_frR
  unfold f_X11_release at h
  obtain ⟨z1, hz1, h⟩ := v_bdS h
  have fz1 : v_fr [15] [] M z1.2 := v_frt (by simp) (by simp) fM (fr_X11_hasMachine hz1)
  rcases v_iteS h with ⟨c, h⟩ | ⟨c, h⟩
  · obtain ⟨hb, h⟩ := v_ckS h
    have h := Option.some.inj h
    subst h
    exact fz1
  · obtain ⟨z2, hz2, h⟩ := v_bdS h
    have fz2 : v_fr [15] [] M z2.2 := v_frt (by simp) (by simp) fz1 (fr_X4_letGo hz2)
    obtain ⟨hb, h⟩ := v_ckS h
    have h := Option.some.inj h
    subst h
    exact fz2
theorem fr_X11_state {N : Nat} {x1 : Int32} {x2 : Int32} {x3 : Int32} {M : v_M} {out : Int32 × v_M} (h : f_X11_state N x1 x2 x3 M = some out) : v_fr [19, 20, 21, 22, 23, 24, 25] [] M out.2 := by
  have fM : v_fr [19, 20, 21, 22, 23, 24, 25] [] M M := v_frR
  unfold f_X11_state at h
  obtain ⟨z1, hz1, h⟩ := v_bdS h
  have fz1 : v_fr [19, 20, 21, 22, 23, 24, 25] [] M z1.2 := v_frt (by simp) (by simp) fM (fr_X11_hasPartOf hz1)
  rcases v_iteS h with ⟨c, h⟩ | ⟨c, h⟩
  · have h := Option.some.inj h
    subst h
    exact fz1
  · obtain ⟨z2, hz2, h⟩ := v_bdS h
    have fz2 : v_fr [19, 20, 21, 22, 23, 24, 25] [] M z2.2 := v_frt (by simp) (by simp) fz1 (fr_X4_spot hz2)
    obtain ⟨y3, ey3, h⟩ := v_ltM h
    by_cases c0 : x3 = (0 : Int32)
    · rw [if_pos c0] at h
      obtain ⟨hb, h⟩ := v_ckS h
      have h := Option.some.inj h
      subst h
      exact fz2
    · rw [if_neg c0] at h
      by_cases c1 : x3 = (1 : Int32)
      · rw [if_pos c1] at h
        obtain ⟨hb, h⟩ := v_ckS h
        have h := Option.some.inj h
        subst h
        exact fz2
      · rw [if_neg c1] at h
        by_cases c2 : x3 = (2 : Int32)
        · rw [if_pos c2] at h
          obtain ⟨hb, h⟩ := v_ckS h
          have h := Option.some.inj h
          subst h
          exact fz2
        · rw [if_neg c2] at h
          by_cases c3 : x3 = (3 : Int32)
          · rw [if_pos c3] at h
            obtain ⟨hb, h⟩ := v_ckS h
            have h := Option.some.inj h
            subst h
            exact fz2
          · rw [if_neg c3] at h
            by_cases c4 : x3 = (4 : Int32)
            · rw [if_pos c4] at h
              obtain ⟨z4, hz4, h⟩ := v_bdS h
              have fz4 : v_fr [19, 20, 21, 22, 23, 24, 25] [] M z4.2 := v_frt (by simp) (by simp) fz2 (fr_X2_load hz4)
              obtain ⟨z5, hz5, h⟩ := v_bdS h
              have fz5 : v_fr [19, 20, 21, 22, 23, 24, 25] [] M z5.2 := v_frt (by simp) (by simp) fz4 (fr_X2_isOver hz5)
              obtain ⟨z6, hz6, h⟩ := v_bdS h
              have fz6 : v_fr [19, 20, 21, 22, 23, 24, 25] [] M z6.2 := v_frt (by simp) (by simp) fz5 (fr_X11_asNumber hz6)
              have h := Option.some.inj h
              subst h
              exact fz6
            · rw [if_neg c4] at h
              have h := Option.some.inj h
              subst h
              exact fz2
theorem fr_X11_judged {N : Nat} {x1 : Int32} {x2 : Int32} {x3 : Int32} {M : v_M} {out : Int32 × v_M} (h : f_X11_judged N x1 x2 x3 M = some out) : v_fr [19, 20, 21, 22, 23, 24, 25] [] M out.2 := by
  have fM : v_fr [19, 20, 21, 22, 23, 24, 25] [] M M := v_frR
  unfold f_X11_judged at h
  obtain ⟨z1, hz1, h⟩ := v_bdS h
  have fz1 : v_fr [19, 20, 21, 22, 23, 24, 25] [] M z1.2 := v_frt (by simp) (by simp) fM (fr_X11_hasMachine hz1)
  rcases v_iteS h with ⟨c, h⟩ | ⟨c, h⟩
  · have h := Option.some.inj h
    subst h
    exact fz1
  · obtain ⟨z2, hz2, h⟩ := v_bdS h
    have fz2 : v_fr [19, 20, 21, 22, 23, 24, 25] [] M z2.2 := v_frt (by simp) (by simp) fz1 (fr_X11_within hz2)
    rcases v_iteS h with ⟨c, h⟩ | ⟨c, h⟩
    · have h := Option.some.inj h
      subst h
      exact fz2
    · obtain ⟨z3, hz3, h⟩ := v_bdS h
      have fz3 : v_fr [19, 20, 21, 22, 23, 24, 25] [] M z3.2 := v_frt (by simp) (by simp) fz2 (fr_X2_load hz3)
      by_cases c0 : x2 = (0 : Int32)
      · rw [if_pos c0] at h
        obtain ⟨z4, hz4, h⟩ := v_bdS h
        have fz4 : v_fr [19, 20, 21, 22, 23, 24, 25] [] M z4.2 := v_frt (by simp) (by simp) fz3 (fr_X2_isShut hz4)
        obtain ⟨z5, hz5, h⟩ := v_bdS h
        have fz5 : v_fr [19, 20, 21, 22, 23, 24, 25] [] M z5.2 := v_frt (by simp) (by simp) fz4 (fr_X11_asNumber hz5)
        have h := Option.some.inj h
        subst h
        exact fz5
      · rw [if_neg c0] at h
        by_cases c1 : x2 = (1 : Int32)
        · rw [if_pos c1] at h
          obtain ⟨z6, hz6, h⟩ := v_bdS h
          have fz6 : v_fr [19, 20, 21, 22, 23, 24, 25] [] M z6.2 := v_frt (by simp) (by simp) fz3 (fr_X2_looksShut hz6)
          obtain ⟨z7, hz7, h⟩ := v_bdS h
          have fz7 : v_fr [19, 20, 21, 22, 23, 24, 25] [] M z7.2 := v_frt (by simp) (by simp) fz6 (fr_X11_asNumber hz7)
          have h := Option.some.inj h
          subst h
          exact fz7
        · rw [if_neg c1] at h
          by_cases c2 : x2 = (2 : Int32)
          · rw [if_pos c2] at h
            obtain ⟨z8, hz8, h⟩ := v_bdS h
            have fz8 : v_fr [19, 20, 21, 22, 23, 24, 25] [] M z8.2 := v_frt (by simp) (by simp) fz3 (fr_X2_isUnlike hz8)
            obtain ⟨z9, hz9, h⟩ := v_bdS h
            have fz9 : v_fr [19, 20, 21, 22, 23, 24, 25] [] M z9.2 := v_frt (by simp) (by simp) fz8 (fr_X11_asNumber hz9)
            have h := Option.some.inj h
            subst h
            exact fz9
          · rw [if_neg c2] at h
            have h := Option.some.inj h
            subst h
            exact fz3
theorem fw_X11_change_L26 {N : Nat} {x1 : Int32} {x2 : Int32} {x3 : Int32} {x4 : Int32} {x5 : Int32} {t0 : Int32} {M : v_M} {out : Int32 × v_M} (h : f_X11_change_L26 N x1 x2 x3 x4 x5 t0 M = some out) : v_fr [30, 31, 32, 33, 34] [(29, 0)] M out.2 := by
  have fM : v_fr [30, 31, 32, 33, 34] [(29, 0)] M M := v_frR
  unfold f_X11_change_L26 at h
  obtain ⟨z1, hz1, h⟩ := v_bdS h
  have fz1 : v_fr [30, 31, 32, 33, 34] [(29, 0)] M z1.2 := v_frt (by simp) (by simp) fM (fr_X11_hasPart hz1)
  rcases v_iteS h with ⟨c, h⟩ | ⟨c, h⟩
  · have h := Option.some.inj h
    subst h
    exact fz1
  · rcases v_iteS h with ⟨c, h⟩ | ⟨c, h⟩
    · have h := Option.some.inj h
      subst h
      exact fz1
    · obtain ⟨z2, hz2, h⟩ := v_bdS h
      have fz2 : v_fr [30, 31, 32, 33, 34] [(29, 0)] M z2.2 := v_frt (by simp) (by simp) fz1 (fr_X11_within hz2)
      rcases v_iteS h with ⟨c, h⟩ | ⟨c, h⟩
      · have h := Option.some.inj h
        subst h
        exact fz2
      · obtain ⟨z3, hz3, h⟩ := v_bdS h
        have fz3 : v_fr [30, 31, 32, 33, 34] [(29, 0)] M z3.2 := v_frt (by simp) (by simp) fz2 (fr_X11_within hz3)
        rcases v_iteS h with ⟨c, h⟩ | ⟨c, h⟩
        · have h := Option.some.inj h
          subst h
          exact fz3
        · obtain ⟨z4, hz4, h⟩ := v_bdS h
          have fz4 : v_fr [30, 31, 32, 33, 34] [(29, 0)] M z4.2 := v_frt (by simp) (by simp) fz3 (fr_X1_add hz4)
          have h := Option.some.inj h
          subst h
          exact fz4
theorem fw_X11_change_L25 {N : Nat} {x1 : Int32} {x2 : Int32} {x3 : Int32} {x4 : Int32} {x5 : Int32} {M : v_M} {out : Int32 × v_M} (h : f_X11_change_L25 N x1 x2 x3 x4 x5 M = some out) : v_fr [30, 31, 32, 33, 34] [(29, 0)] M out.2 := by
  have fM : v_fr [30, 31, 32, 33, 34] [(29, 0)] M M := v_frR
  unfold f_X11_change_L25 at h
  exact v_frT fM (fw_X11_change_L26 h)
theorem fr_X11_change {N : Nat} {x1 : Int32} {x2 : Int32} {x3 : Int32} {x4 : Int32} {x5 : Int32} {M : v_M} {out : Int32 × v_M} (h : f_X11_change N x1 x2 x3 x4 x5 M = some out) : v_fr [30, 31, 32, 33, 34] [(29, 0)] M out.2 := by
  have fM : v_fr [30, 31, 32, 33, 34] [(29, 0)] M M := v_frR
  unfold f_X11_change at h
  obtain ⟨z1, hz1, h⟩ := v_bdS h
  have fz1 : v_fr [30, 31, 32, 33, 34] [(29, 0)] M z1.2 := v_frt (by simp) (by simp) fM (fr_X11_within hz1)
  rcases v_iteS h with ⟨c, h⟩ | ⟨c, h⟩
  · exact v_frT fz1 (fw_X11_change_L25 h)
  · obtain ⟨z2, hz2, h⟩ := v_bdS h
    have fz2 : v_fr [30, 31, 32, 33, 34] [(29, 0)] M z2.2 := v_frt (by simp) (by simp) fz1 (fr_X11_within hz2)
    rcases v_iteS h with ⟨c, h⟩ | ⟨c, h⟩
    · exact v_frT fz2 (fw_X11_change_L25 h)
    · exact v_frT fz2 (fw_X11_change_L26 h)
theorem fr_X11_canTry {N : Nat} {x1 : Int32} {x2 : Int32} {x3 : Int32} {x4 : Int32} {x5 : Int32} {x6 : Int32} {M : v_M} {out : Int32 × v_M} (h : f_X11_canTry N x1 x2 x3 x4 x5 x6 M = some out) : v_fr [] [] M out.2 := by
  have fM : v_fr [] [] M M := v_frR
  unfold f_X11_canTry at h
  obtain ⟨z1, hz1, h⟩ := v_bdS h
  have fz1 : v_fr [] [] M z1.2 := v_frt (by simp) (by simp) fM (fr_X11_hasPartOf hz1)
  rcases v_iteS h with ⟨c, h⟩ | ⟨c, h⟩
  · obtain ⟨hb, h⟩ := v_ckS h
    have h := Option.some.inj h
    subst h
    exact fz1
  · obtain ⟨z2, hz2, h⟩ := v_bdS h
    have fz2 : v_fr [] [] M z2.2 := v_frt (by simp) (by simp) fz1 (fr_X11_hasPart hz2)
    rcases v_iteS h with ⟨c, h⟩ | ⟨c, h⟩
    · obtain ⟨hb, h⟩ := v_ckS h
      have h := Option.some.inj h
      subst h
      exact fz2
    · rcases v_iteS h with ⟨c, h⟩ | ⟨c, h⟩
      · obtain ⟨hb, h⟩ := v_ckS h
        have h := Option.some.inj h
        subst h
        exact fz2
      · obtain ⟨z3, hz3, h⟩ := v_bdS h
        have fz3 : v_fr [] [] M z3.2 := v_frt (by simp) (by simp) fz2 (fr_X11_within hz3)
        rcases v_iteS h with ⟨c, h⟩ | ⟨c, h⟩
        · obtain ⟨hb, h⟩ := v_ckS h
          have h := Option.some.inj h
          subst h
          exact fz3
        · obtain ⟨z4, hz4, h⟩ := v_bdS h
          have fz4 : v_fr [] [] M z4.2 := v_frt (by simp) (by simp) fz3 (fr_X11_within hz4)
          rcases v_iteS h with ⟨c, h⟩ | ⟨c, h⟩
          · obtain ⟨hb, h⟩ := v_ckS h
            have h := Option.some.inj h
            subst h
            exact fz4
          · obtain ⟨z5, hz5, h⟩ := v_bdS h
            have fz5 : v_fr [] [] M z5.2 := v_frt (by simp) (by simp) fz4 (fr_X11_within hz5)
            rcases v_iteS h with ⟨c, h⟩ | ⟨c, h⟩
            · obtain ⟨hb, h⟩ := v_ckS h
              have h := Option.some.inj h
              subst h
              exact fz5
            · obtain ⟨hb, h⟩ := v_ckS h
              have h := Option.some.inj h
              subst h
              exact fz5
theorem fw_X11_floor_L66 {N : Nat} {x1 : Int32} {x2 : Int32} {x3 : Int32} {x4 : Int32} {x5 : Int32} {x6 : Int32} {x7 : Int32} {x8 : Int32} {t0 : Int32} {M : v_M} {out : Int32 × v_M} (h : f_X11_floor_L66 N x1 x2 x3 x4 x5 x6 x7 x8 t0 M = some out) : v_fr [] [] M out.2 := by
  have fM : v_fr [] [] M M := v_frR
  unfold f_X11_floor_L66 at h
  rcases v_iteS h with ⟨c, h⟩ | ⟨c, h⟩
  · have h := Option.some.inj h
    subst h
    exact fM
  · rcases v_iteS h with ⟨c, h⟩ | ⟨c, h⟩
    · have h := Option.some.inj h
      subst h
      exact fM
    · obtain ⟨z1, hz1, h⟩ := v_bdS h
      have fz1 : v_fr [] [] M z1.2 := v_frt (by simp) (by simp) fM (fr_X11_within hz1)
      rcases v_iteS h with ⟨c, h⟩ | ⟨c, h⟩
      · have h := Option.some.inj h
        subst h
        exact fz1
      · obtain ⟨z2, hz2, h⟩ := v_bdS h
        have fz2 : v_fr [] [] M z2.2 := v_frt (by simp) (by simp) fz1 (fr_X11_within hz2)
        rcases v_iteS h with ⟨c, h⟩ | ⟨c, h⟩
        · have h := Option.some.inj h
          subst h
          exact fz2
        · obtain ⟨y3, ey3, h⟩ := v_ltM h
          rcases v_iteS h with ⟨c, h⟩ | ⟨c, h⟩
          · rcases v_iteS h with ⟨c, h⟩ | ⟨c, h⟩
            · have h := Option.some.inj h
              subst h
              exact fz2
            · obtain ⟨hb, h⟩ := v_ckS h
              have h := Option.some.inj h
              subst h
              exact fz2
          · have h := Option.some.inj h
            subst h
            exact fz2
theorem fw_X11_floor_L65 {N : Nat} {x1 : Int32} {x2 : Int32} {x3 : Int32} {x4 : Int32} {x5 : Int32} {x6 : Int32} {x7 : Int32} {x8 : Int32} {M : v_M} {out : Int32 × v_M} (h : f_X11_floor_L65 N x1 x2 x3 x4 x5 x6 x7 x8 M = some out) : v_fr [] [] M out.2 := by
  have fM : v_fr [] [] M M := v_frR
  unfold f_X11_floor_L65 at h
  exact v_frT fM (fw_X11_floor_L66 h)
theorem fw_X11_floor_L26 {N : Nat} {x1 : Int32} {x2 : Int32} {x3 : Int32} {x4 : Int32} {x5 : Int32} {x6 : Int32} {x7 : Int32} {t0 : Int32} {M : v_M} {out : Int32 × v_M} (h : f_X11_floor_L26 N x1 x2 x3 x4 x5 x6 x7 t0 M = some out) : v_fr [] [] M out.2 := by
  have fM : v_fr [] [] M M := v_frR
  unfold f_X11_floor_L26 at h
  obtain ⟨z1, hz1, h⟩ := v_bdS h
  have fz1 : v_fr [] [] M z1.2 := v_frt (by simp) (by simp) fM (fr_X11_within hz1)
  rcases v_iteS h with ⟨c, h⟩ | ⟨c, h⟩
  · exact v_frT fz1 (fw_X11_floor_L65 h)
  · obtain ⟨z2, hz2, h⟩ := v_bdS h
    have fz2 : v_fr [] [] M z2.2 := v_frt (by simp) (by simp) fz1 (fr_X11_within hz2)
    rcases v_iteS h with ⟨c, h⟩ | ⟨c, h⟩
    · exact v_frT fz2 (fw_X11_floor_L65 h)
    · obtain ⟨z3, hz3, h⟩ := v_bdS h
      have fz3 : v_fr [] [] M z3.2 := v_frt (by simp) (by simp) fz2 (fr_X11_within hz3)
      rcases v_iteS h with ⟨c, h⟩ | ⟨c, h⟩
      · exact v_frT fz3 (fw_X11_floor_L65 h)
      · exact v_frT fz3 (fw_X11_floor_L66 h)
theorem fw_X11_floor_L25 {N : Nat} {x1 : Int32} {x2 : Int32} {x3 : Int32} {x4 : Int32} {x5 : Int32} {x6 : Int32} {x7 : Int32} {M : v_M} {out : Int32 × v_M} (h : f_X11_floor_L25 N x1 x2 x3 x4 x5 x6 x7 M = some out) : v_fr [] [] M out.2 := by
  have fM : v_fr [] [] M M := v_frR
  unfold f_X11_floor_L25 at h
  exact v_frT fM (fw_X11_floor_L26 h)
theorem fr_X11_floor {N : Nat} {x1 : Int32} {x2 : Int32} {x3 : Int32} {x4 : Int32} {x5 : Int32} {x6 : Int32} {x7 : Int32} {M : v_M} {out : Int32 × v_M} (h : f_X11_floor N x1 x2 x3 x4 x5 x6 x7 M = some out) : v_fr [] [] M out.2 := by
  have fM : v_fr [] [] M M := v_frR
  unfold f_X11_floor at h
  obtain ⟨z1, hz1, h⟩ := v_bdS h
  have fz1 : v_fr [] [] M z1.2 := v_frt (by simp) (by simp) fM (fr_X11_within hz1)
  rcases v_iteS h with ⟨c, h⟩ | ⟨c, h⟩
  · exact v_frT fz1 (fw_X11_floor_L25 h)
  · obtain ⟨z2, hz2, h⟩ := v_bdS h
    have fz2 : v_fr [] [] M z2.2 := v_frt (by simp) (by simp) fz1 (fr_X11_within hz2)
    rcases v_iteS h with ⟨c, h⟩ | ⟨c, h⟩
    · exact v_frT fz2 (fw_X11_floor_L25 h)
    · exact v_frT fz2 (fw_X11_floor_L26 h)
theorem fr_X11_end {N : Nat} {x1 : Int32} {M : v_M} {out : Int32 × v_M} (h : f_X11_end N x1 M = some out) : v_fr [] [(36, 0)] M out.2 := by
  have fM : v_fr [] [(36, 0)] M M := v_frR
  unfold f_X11_end at h
  obtain ⟨z1, hz1, h⟩ := v_bdS h
  have fz1 : v_fr [] [(36, 0)] M z1.2 := v_frt (by simp) (by simp) fM (fr_X11_within hz1)
  rcases v_iteS h with ⟨c, h⟩ | ⟨c, h⟩
  · have h := Option.some.inj h
    subst h
    exact fz1
  · obtain ⟨M2, eM2, h⟩ := v_ltM h
    have fM2 : v_fr [] [(36, 0)] M M2 := by rw [eM2]; exact v_fro (by simp) fz1
    have h := Option.some.inj h
    subst h
    exact fM2
theorem fr_X11_takes {N : Nat} {P : v_P} {x1 : Int32} {x2 : Int32} {x3 : Int32} {M : v_M} {out : Int32 × v_M} (h : f_X11_takes N P x1 x2 x3 M = some out) : v_fr [17] [] M out.2 := by
  have fM : v_fr [17] [] M M := v_frR
  unfold f_X11_takes at h
  obtain ⟨z1, hz1, h⟩ := v_bdS h
  have fz1 : v_fr [17] [] M z1.2 := v_frt (by simp) (by simp) fM (fr_X11_hasMachine hz1)
  rcases v_iteS h with ⟨c, h⟩ | ⟨c, h⟩
  · obtain ⟨hb, h⟩ := v_ckS h
    have h := Option.some.inj h
    subst h
    exact fz1
  · obtain ⟨z2, hz2, h⟩ := v_bdS h
    have fz2 : v_fr [17] [] M z2.2 := v_frt (by simp) (by simp) fz1 (fr_X11_within hz2)
    rcases v_iteS h with ⟨c, h⟩ | ⟨c, h⟩
    · obtain ⟨hb, h⟩ := v_ckS h
      have h := Option.some.inj h
      subst h
      exact fz2
    · obtain ⟨hb, h⟩ := v_ckS h
      cases eqqd29 : (P 48 x2.toNatClampNeg) with
      | none =>
        have h := v_optN eqqd29 h
        obtain ⟨hb, h⟩ := v_ckS h
        have h := Option.some.inj h
        subst h
        exact fz2
      | some qd29 =>
        have h := v_optS eqqd29 h
        rcases v_iteS h with ⟨c, h⟩ | ⟨c, h⟩
        · obtain ⟨z3, hz3, h⟩ := v_bdS h
          have fz3 : v_fr [17] [] M z3.2 := v_frt (by simp) (by simp) fz2 (fr_X4_hasTaken hz3)
          rcases v_iteS h with ⟨c, h⟩ | ⟨c, h⟩
          · obtain ⟨hb, h⟩ := v_ckS h
            have h := Option.some.inj h
            subst h
            exact fz3
          · obtain ⟨hb, h⟩ := v_ckS h
            obtain ⟨hb, h⟩ := v_ckS h
            obtain ⟨M4, eM4, h⟩ := v_ltM h
            have fM4 : v_fr [17] [] M M4 := by rw [eM4]; exact v_frw (by simp) fz3
            obtain ⟨hb, h⟩ := v_ckS h
            have h := Option.some.inj h
            subst h
            exact fM4
        · obtain ⟨hb, h⟩ := v_ckS h
          have h := Option.some.inj h
          subst h
          exact fz2
theorem fr_X11_canBeDone {N : Nat} {x1 : Int32} {x2 : Int32} {x3 : Int32} {M : v_M} {out : Int32 × v_M} (h : f_X11_canBeDone N x1 x2 x3 M = some out) : v_fr [] [] M out.2 := by
  have fM : v_fr [] [] M M := v_frR
  unfold f_X11_canBeDone at h
  obtain ⟨z1, hz1, h⟩ := v_bdS h
  have fz1 : v_fr [] [] M z1.2 := v_frt (by simp) (by simp) fM (fr_X11_hasMachine hz1)
  rcases v_iteS h with ⟨c, h⟩ | ⟨c, h⟩
  · obtain ⟨hb, h⟩ := v_ckS h
    have h := Option.some.inj h
    subst h
    exact fz1
  · obtain ⟨z2, hz2, h⟩ := v_bdS h
    have fz2 : v_fr [] [] M z2.2 := v_frt (by simp) (by simp) fz1 (fr_X11_within hz2)
    rcases v_iteS h with ⟨c, h⟩ | ⟨c, h⟩
    · obtain ⟨hb, h⟩ := v_ckS h
      have h := Option.some.inj h
      subst h
      exact fz2
    · obtain ⟨z3, hz3, h⟩ := v_bdS h
      have fz3 : v_fr [] [] M z3.2 := v_frt (by simp) (by simp) fz2 (fr_X11_within hz3)
      rcases v_iteS h with ⟨c, h⟩ | ⟨c, h⟩
      · obtain ⟨hb, h⟩ := v_ckS h
        have h := Option.some.inj h
        subst h
        exact fz3
      · obtain ⟨hb, h⟩ := v_ckS h
        have h := Option.some.inj h
        subst h
        exact fz3
theorem fw_X11_paper_L18 {N : Nat} {x1 : Int32} {x2 : Int32} {x3 : Int32} {t0 : Int32} {M : v_M} {out : Int32 × v_M} (h : f_X11_paper_L18 N x1 x2 x3 t0 M = some out) : v_fr [72, 73, 75] [(71, 0)] M out.2 := by
  have fM : v_fr [72, 73, 75] [(71, 0)] M M := v_frR
  unfold f_X11_paper_L18 at h
  rcases v_iteS h with ⟨c, h⟩ | ⟨c, h⟩
  · have h := Option.some.inj h
    subst h
    exact fM
  · obtain ⟨z1, hz1, h⟩ := v_bdS h
    have fz1 : v_fr [72, 73, 75] [(71, 0)] M z1.2 := v_frt (by simp) (by simp) fM (fr_X11_within hz1)
    rcases v_iteS h with ⟨c, h⟩ | ⟨c, h⟩
    · have h := Option.some.inj h
      subst h
      exact fz1
    · rcases v_iteS h with ⟨c, h⟩ | ⟨c, h⟩
      · obtain ⟨z2, hz2, h⟩ := v_bdS h
        have fz2 : v_fr [72, 73, 75] [(71, 0)] M z2.2 := v_frt (by simp) (by simp) fz1 (fr_X11_within hz2)
        rcases v_iteS h with ⟨c, h⟩ | ⟨c, h⟩
        · have h := Option.some.inj h
          subst h
          exact fz2
        · obtain ⟨z3, hz3, h⟩ := v_bdS h
          have fz3 : v_fr [72, 73, 75] [(71, 0)] M z3.2 := v_frt (by simp) (by simp) fz2 (fr_X6_add hz3)
          have h := Option.some.inj h
          subst h
          exact fz3
      · have h := Option.some.inj h
        subst h
        exact fz1
theorem fw_X11_paper_L13 {N : Nat} {x1 : Int32} {x2 : Int32} {x3 : Int32} {M : v_M} {out : Int32 × v_M} (h : f_X11_paper_L13 N x1 x2 x3 M = some out) : v_fr [72, 73, 75] [(71, 0)] M out.2 := by
  have fM : v_fr [72, 73, 75] [(71, 0)] M M := v_frR
  unfold f_X11_paper_L13 at h
  exact v_frT fM (fw_X11_paper_L18 h)
theorem fr_X11_paper {N : Nat} {x1 : Int32} {x2 : Int32} {x3 : Int32} {M : v_M} {out : Int32 × v_M} (h : f_X11_paper N x1 x2 x3 M = some out) : v_fr [72, 73, 75] [(71, 0)] M out.2 := by
  have fM : v_fr [72, 73, 75] [(71, 0)] M M := v_frR
  unfold f_X11_paper at h
  rcases v_iteS h with ⟨c, h⟩ | ⟨c, h⟩
  · exact v_frT fM (fw_X11_paper_L13 h)
  · obtain ⟨z1, hz1, h⟩ := v_bdS h
    have fz1 : v_fr [72, 73, 75] [(71, 0)] M z1.2 := v_frt (by simp) (by simp) fM (fr_X11_hasMachine hz1)
    rcases v_iteS h with ⟨c, h⟩ | ⟨c, h⟩
    · exact v_frT fz1 (fw_X11_paper_L18 h)
    · exact v_frT fz1 (fw_X11_paper_L13 h)
theorem fr_X11_read {N : Nat} {x1 : Int32} {x2 : Int32} {x3 : Int32} {M : v_M} {out : Int32 × v_M} (h : f_X11_read N x1 x2 x3 M = some out) : v_fr [76] [] M out.2 := by
  have fM : v_fr [76] [] M M := v_frR
  unfold f_X11_read at h
  obtain ⟨z1, hz1, h⟩ := v_bdS h
  have fz1 : v_fr [76] [] M z1.2 := v_frt (by simp) (by simp) fM (fr_X11_within hz1)
  rcases v_iteS h with ⟨c, h⟩ | ⟨c, h⟩
  · obtain ⟨hb, h⟩ := v_ckS h
    have h := Option.some.inj h
    subst h
    exact fz1
  · obtain ⟨z2, hz2, h⟩ := v_bdS h
    have fz2 : v_fr [76] [] M z2.2 := v_frt (by simp) (by simp) fz1 (fr_X11_within hz2)
    rcases v_iteS h with ⟨c, h⟩ | ⟨c, h⟩
    · obtain ⟨hb, h⟩ := v_ckS h
      have h := Option.some.inj h
      subst h
      exact fz2
    · obtain ⟨hb, h⟩ := v_ckS h
      obtain ⟨z3, hz3, h⟩ := v_bdS h
      have fz3 : v_fr [76] [] M z3.2 := v_frt (by simp) (by simp) fz2 (fr_X11_within hz3)
      rcases v_iteS h with ⟨c, h⟩ | ⟨c, h⟩
      · obtain ⟨hb, h⟩ := v_ckS h
        have h := Option.some.inj h
        subst h
        exact fz3
      · obtain ⟨z4, hz4, h⟩ := v_bdS h
        have fz4 : v_fr [76] [] M z4.2 := v_frt (by simp) (by simp) fz3 (fr_X6_putReading hz4)
        obtain ⟨hb, h⟩ := v_ckS h
        have h := Option.some.inj h
        subst h
        exact fz4
theorem fr_X11_knew {N : Nat} {x1 : Int32} {x2 : Int32} {M : v_M} {out : Int32 × v_M} (h : f_X11_knew N x1 x2 M = some out) : v_fr [74] [] M out.2 := by
  have fM : v_fr [74] [] M M := v_frR
  unfold f_X11_knew at h
  obtain ⟨z1, hz1, h⟩ := v_bdS h
  have fz1 : v_fr [74] [] M z1.2 := v_frt (by simp) (by simp) fM (fr_X11_within hz1)
  rcases v_iteS h with ⟨c, h⟩ | ⟨c, h⟩
  · have h := Option.some.inj h
    subst h
    exact fz1
  · obtain ⟨z2, hz2, h⟩ := v_bdS h
    have fz2 : v_fr [74] [] M z2.2 := v_frt (by simp) (by simp) fz1 (fr_X11_within hz2)
    rcases v_iteS h with ⟨c, h⟩ | ⟨c, h⟩
    · have h := Option.some.inj h
      subst h
      exact fz2
    · obtain ⟨z3, hz3, h⟩ := v_bdS h
      have fz3 : v_fr [74] [] M z3.2 := v_frt (by simp) (by simp) fz2 (fr_X6_gatherKnowing hz3)
      obtain ⟨hb, h⟩ := v_ckS h
      obtain ⟨y4, ey4, h⟩ := v_ltM h
      rcases v_iteS h with ⟨c, h⟩ | ⟨c, h⟩
      · have h := Option.some.inj h
        subst h
        exact fz3
      · have h := Option.some.inj h
        subst h
        exact fz3
theorem fw_X11_warned_L61 {N : Nat} {x1 : Int32} {x2 : Int32} {x3 : Int32} {x4 : Int32} {M : v_M} {out : Int32 × v_M} {k26 : Int32 → Int32 → Int32 → Int32 → v_M → Option (Int32 × v_M)} (hk26 : ∀ (x1 : Int32) (x2 : Int32) (x3 : Int32) (x4 : Int32) (M : v_M), k26 x1 x2 x3 x4 M = some out → v_fr [74] [] M out.2) (h : f_X11_warned_L61 N k26 x1 x2 x3 x4 M = some out) : v_fr [74] [] M out.2 := by
  have fM : v_fr [74] [] M M := v_frR
  unfold f_X11_warned_L61 at h
  exact v_frT fM (hk26 _ _ _ _ _ h)
theorem fv_X11_warned_L26 {N : Nat} {out : Int32 × v_M} (n : Nat) : ∀ (x1 : Int32) (x2 : Int32) (x3 : Int32) (x4 : Int32) (M : v_M), f_X11_warned_L26 N n x1 x2 x3 x4 M = some out → v_fr [74] [] M out.2 := by
  induction n with
  | zero => intro x1 x2 x3 x4 M h; rw [f_X11_warned_L26] at h; cases h
  | succ n ih =>
    intro x1 x2 x3 x4 M h
    have fM : v_fr [74] [] M M := v_frR
    rw [f_X11_warned_L26] at h
    rcases v_iteS h with ⟨c, h⟩ | ⟨c, h⟩
    · have h := Option.some.inj h
      subst h
      exact fM
    · obtain ⟨z1, hz1, h⟩ := v_bdS h
      have fz1 : v_fr [74] [] M z1.2 := v_frt (by simp) (by simp) fM (fr_X6_gatherKnowing hz1)
      obtain ⟨z2, hz2, h⟩ := v_bdS h
      have fz2 : v_fr [74] [] M z2.2 := v_frt (by simp) (by simp) fz1 (fr_X6_warnsOf hz2)
      rcases v_iteS h with ⟨c, h⟩ | ⟨c, h⟩
      · exact v_frT fz2 (fw_X11_warned_L61 ih h)
      · obtain ⟨y3, ey3, h⟩ := v_ltM h
        exact v_frT fz2 (fw_X11_warned_L61 ih h)
theorem fw_X11_warned_L26 {N n : Nat} {x1 : Int32} {x2 : Int32} {x3 : Int32} {x4 : Int32} {M : v_M} {out : Int32 × v_M} (h : f_X11_warned_L26 N n x1 x2 x3 x4 M = some out) : v_fr [74] [] M out.2 := fv_X11_warned_L26 n x1 x2 x3 x4 M h
theorem fr_X11_warned {N : Nat} {x1 : Int32} {x2 : Int32} {M : v_M} {out : Int32 × v_M} (h : f_X11_warned N x1 x2 M = some out) : v_fr [74] [] M out.2 := by
  have fM : v_fr [74] [] M M := v_frR
  unfold f_X11_warned at h
  obtain ⟨z1, hz1, h⟩ := v_bdS h
  have fz1 : v_fr [74] [] M z1.2 := v_frt (by simp) (by simp) fM (fr_X11_hasMachine hz1)
  rcases v_iteS h with ⟨c, h⟩ | ⟨c, h⟩
  · have h := Option.some.inj h
    subst h
    exact fz1
  · obtain ⟨z2, hz2, h⟩ := v_bdS h
    have fz2 : v_fr [74] [] M z2.2 := v_frt (by simp) (by simp) fz1 (fr_X11_within hz2)
    rcases v_iteS h with ⟨c, h⟩ | ⟨c, h⟩
    · have h := Option.some.inj h
      subst h
      exact fz2
    · exact v_frT fz2 (fw_X11_warned_L26 h)
theorem fr_X11_wears {N : Nat} {x1 : Int32} {x2 : Int32} {M : v_M} {out : Int32 × v_M} (h : f_X11_wears N x1 x2 M = some out) : v_fr [10] [] M out.2 := by
  have fM : v_fr [10] [] M M := v_frR
  unfold f_X11_wears at h
  obtain ⟨z1, hz1, h⟩ := v_bdS h
  have fz1 : v_fr [10] [] M z1.2 := v_frt (by simp) (by simp) fM (fr_X11_hasPart hz1)
  rcases v_iteS h with ⟨c, h⟩ | ⟨c, h⟩
  · have h := Option.some.inj h
    subst h
    exact fz1
  · obtain ⟨z2, hz2, h⟩ := v_bdS h
    have fz2 : v_fr [10] [] M z2.2 := v_frt (by simp) (by simp) fz1 (fr_X11_within hz2)
    rcases v_iteS h with ⟨c, h⟩ | ⟨c, h⟩
    · have h := Option.some.inj h
      subst h
      exact fz2
    · obtain ⟨z3, hz3, h⟩ := v_bdS h
      have fz3 : v_fr [10] [] M z3.2 := v_frt (by simp) (by simp) fz2 (fr_X11_swap hz3)
      have h := Option.some.inj h
      subst h
      exact fz3
theorem fr_X11_fly {N : Nat} {x1 : Int32} {x2 : Int32} {M : v_M} {out : Int32 × v_M} (h : f_X11_fly N x1 x2 M = some out) : v_fr [12, 16] [] M out.2 := by
  have fM : v_fr [12, 16] [] M M := v_frR
  unfold f_X11_fly at h
  obtain ⟨z1, hz1, h⟩ := v_bdS h
  have fz1 : v_fr [12, 16] [] M z1.2 := v_frt (by simp) (by simp) fM (fr_X11_hasMachine hz1)
  rcases v_iteS h with ⟨c, h⟩ | ⟨c, h⟩
  · have h := Option.some.inj h
    subst h
    exact fz1
  · obtain ⟨z2, hz2, h⟩ := v_bdS h
    have fz2 : v_fr [12, 16] [] M z2.2 := v_frt (by simp) (by simp) fz1 (fr_X11_within hz2)
    rcases v_iteS h with ⟨c, h⟩ | ⟨c, h⟩
    · have h := Option.some.inj h
      subst h
      exact fz2
    · obtain ⟨z3, hz3, h⟩ := v_bdS h
      have fz3 : v_fr [12, 16] [] M z3.2 := v_frt (by simp) (by simp) fz2 (fr_X4_addFlights hz3)
      obtain ⟨hb, h⟩ := v_ckS h
      have h := Option.some.inj h
      subst h
      exact fz3
theorem fr_X11_odds {N : Nat} {x1 : Int32} {x2 : Int32} {M : v_M} {out : Int32 × v_M} (h : f_X11_odds N x1 x2 M = some out) : v_fr [] [] M out.2 := by
  have fM : v_fr [] [] M M := v_frR
  unfold f_X11_odds at h
  obtain ⟨z1, hz1, h⟩ := v_bdS h
  have fz1 : v_fr [] [] M z1.2 := v_frt (by simp) (by simp) fM (fr_X11_within hz1)
  rcases v_iteS h with ⟨c, h⟩ | ⟨c, h⟩
  · have h := Option.some.inj h
    subst h
    exact fz1
  · obtain ⟨z2, hz2, h⟩ := v_bdS h
    have fz2 : v_fr [] [] M z2.2 := v_frt (by simp) (by simp) fz1 (fr_X11_within hz2)
    rcases v_iteS h with ⟨c, h⟩ | ⟨c, h⟩
    · have h := Option.some.inj h
      subst h
      exact fz2
    · obtain ⟨z3, hz3, h⟩ := v_bdS h
      have fz3 : v_fr [] [] M z3.2 := v_frt (by simp) (by simp) fz2 (fr_X11_noneAfter hz3)
      have h := Option.some.inj h
      subst h
      exact fz3
theorem fv_X11_first_L43 {N : Nat} {out : Int32 × v_M} (n : Nat) : ∀ (x1 : Int32) (x2 : Int32) (x3 : Int32) (x4 : Int32) (x5 : Int32) (M : v_M), f_X11_first_L43 N n x1 x2 x3 x4 x5 M = some out → v_fr [] [] M out.2 := by
  induction n with
  | zero => intro x1 x2 x3 x4 x5 M h; rw [f_X11_first_L43] at h; cases h
  | succ n ih =>
    intro x1 x2 x3 x4 x5 M h
    have fM : v_fr [] [] M M := v_frR
    rw [f_X11_first_L43] at h
    rcases v_iteS h with ⟨c, h⟩ | ⟨c, h⟩
    · have h := Option.some.inj h
      subst h
      exact fM
    · obtain ⟨z1, hz1, h⟩ := v_bdS h
      have fz1 : v_fr [] [] M z1.2 := v_frt (by simp) (by simp) fM (fr_X11_noneAfter hz1)
      obtain ⟨y2, ey2, h⟩ := v_ltM h
      rcases v_iteS h with ⟨c, h⟩ | ⟨c, h⟩
      · exact v_frT fz1 (ih _ _ _ _ _ _ h)
      · have h := Option.some.inj h
        subst h
        exact fz1
theorem fw_X11_first_L43 {N n : Nat} {x1 : Int32} {x2 : Int32} {x3 : Int32} {x4 : Int32} {x5 : Int32} {M : v_M} {out : Int32 × v_M} (h : f_X11_first_L43 N n x1 x2 x3 x4 x5 M = some out) : v_fr [] [] M out.2 := fv_X11_first_L43 n x1 x2 x3 x4 x5 M h
theorem fr_X11_first {N : Nat} {x1 : Int32} {x2 : Int32} {x3 : Int32} {M : v_M} {out : Int32 × v_M} (h : f_X11_first N x1 x2 x3 M = some out) : v_fr [] [] M out.2 := by
  have fM : v_fr [] [] M M := v_frR
  unfold f_X11_first at h
  obtain ⟨z1, hz1, h⟩ := v_bdS h
  have fz1 : v_fr [] [] M z1.2 := v_frt (by simp) (by simp) fM (fr_X11_within hz1)
  rcases v_iteS h with ⟨c, h⟩ | ⟨c, h⟩
  · have h := Option.some.inj h
    subst h
    exact fz1
  · obtain ⟨z2, hz2, h⟩ := v_bdS h
    have fz2 : v_fr [] [] M z2.2 := v_frt (by simp) (by simp) fz1 (fr_X11_within hz2)
    rcases v_iteS h with ⟨c, h⟩ | ⟨c, h⟩
    · have h := Option.some.inj h
      subst h
      exact fz2
    · obtain ⟨z3, hz3, h⟩ := v_bdS h
      have fz3 : v_fr [] [] M z3.2 := v_frt (by simp) (by simp) fz2 (fr_X11_within hz3)
      rcases v_iteS h with ⟨c, h⟩ | ⟨c, h⟩
      · have h := Option.some.inj h
        subst h
        exact fz3
      · exact v_frT fz3 (fw_X11_first_L43 h)
theorem fr_X11_back {N : Nat} {P : v_P} {x1 : Int32} {M : v_M} {out : Int32 × v_M} (h : f_X11_back N P x1 M = some out) : v_fr [12, 13, 14, 15, 16, 17, 53, 54, 55, 56, 57, 58, 59, 60, 61, 62, 63, 72] [(0, 0), (11, 0), (52, 0), (52, 9)] M out.2 := by
  have fM : v_fr [12, 13, 14, 15, 16, 17, 53, 54, 55, 56, 57, 58, 59, 60, 61, 62, 63, 72] [(0, 0), (11, 0), (52, 0), (52, 9)] M M := v_frR
  unfold f_X11_back at h
  obtain ⟨z1, hz1, h⟩ := v_bdS h
  have fz1 : v_fr [12, 13, 14, 15, 16, 17, 53, 54, 55, 56, 57, 58, 59, 60, 61, 62, 63, 72] [(0, 0), (11, 0), (52, 0), (52, 9)] M z1.2 := v_frt (by simp) (by simp) fM (fr_X11_within hz1)
  rcases v_iteS h with ⟨c, h⟩ | ⟨c, h⟩
  · have h := Option.some.inj h
    subst h
    exact fz1
  · obtain ⟨hb, h⟩ := v_ckS h
    cases eqqd16 : (P 77 x1.toNatClampNeg) with
    | none =>
      have h := v_optN eqqd16 h
      have h := Option.some.inj h
      subst h
      exact fz1
    | some qd16 =>
      have h := v_optS eqqd16 h
      obtain ⟨z2, hz2, h⟩ := v_bdS h
      have fz2 : v_fr [12, 13, 14, 15, 16, 17, 53, 54, 55, 56, 57, 58, 59, 60, 61, 62, 63, 72] [(0, 0), (11, 0), (52, 0), (52, 9)] M z2.2 := v_frt (by simp) (by simp) fz1 (fr_X4_become hz2)
      obtain ⟨hb, h⟩ := v_ckS h
      obtain ⟨M3, eM3, h⟩ := v_ltM h
      have fM3 : v_fr [12, 13, 14, 15, 16, 17, 53, 54, 55, 56, 57, 58, 59, 60, 61, 62, 63, 72] [(0, 0), (11, 0), (52, 0), (52, 9)] M M3 := by rw [eM3]; exact v_fro (by simp) fz2
      obtain ⟨z4, hz4, h⟩ := v_bdS h
      have fz4 : v_fr [12, 13, 14, 15, 16, 17, 53, 54, 55, 56, 57, 58, 59, 60, 61, 62, 63, 72] [(0, 0), (11, 0), (52, 0), (52, 9)] M z4.2 := v_frt (by simp) (by simp) fM3 (fr_X8_forgetFrom hz4)
      obtain ⟨z5, hz5, h⟩ := v_bdS h
      have fz5 : v_fr [12, 13, 14, 15, 16, 17, 53, 54, 55, 56, 57, 58, 59, 60, 61, 62, 63, 72] [(0, 0), (11, 0), (52, 0), (52, 9)] M z5.2 := v_frt (by simp) (by simp) fz4 (fr_X6_forgetFrom hz5)
      have h := Option.some.inj h
      subst h
      exact fz5
theorem fv_X12_machine_L13 {N : Nat} {out : Int32 × v_M} (n : Nat) : ∀ (x1 : Int32) (M : v_M), f_X12_machine_L13 N n x1 M = some out → v_fr [88, 89, 90, 91, 92, 93] [(79, 3)] M out.2 := by
  induction n with
  | zero => intro x1 M h; rw [f_X12_machine_L13] at h; cases h
  | succ n ih =>
    intro x1 M h
    have fM : v_fr [88, 89, 90, 91, 92, 93] [(79, 3)] M M := v_frR
    rw [f_X12_machine_L13] at h
    rcases v_iteS h with ⟨c, h⟩ | ⟨c, h⟩
    · obtain ⟨hb, h⟩ := v_ckS h
      obtain ⟨M1, eM1, h⟩ := v_ltM h
      have fM1 : v_fr [88, 89, 90, 91, 92, 93] [(79, 3)] M M1 := by rw [eM1]; exact v_frw (by simp) fM
      obtain ⟨hb, h⟩ := v_ckS h
      obtain ⟨M2, eM2, h⟩ := v_ltM h
      have fM2 : v_fr [88, 89, 90, 91, 92, 93] [(79, 3)] M M2 := by rw [eM2]; exact v_frw (by simp) fM1
      obtain ⟨M3, eM3, h⟩ := v_ltM h
      have fM3 : v_fr [88, 89, 90, 91, 92, 93] [(79, 3)] M M3 := by rw [eM3]; exact v_fro (by simp) fM2
      have h := Option.some.inj h
      subst h
      exact fM3
    · obtain ⟨z4, hz4, h⟩ := v_bdS h
      have fz4 : v_fr [88, 89, 90, 91, 92, 93] [(79, 3)] M z4.2 := v_frt (by simp) (by simp) fM (fr_X12_clears hz4)
      exact v_frT fz4 (ih _ _ h)
theorem fw_X12_machine_L13 {N n : Nat} {x1 : Int32} {M : v_M} {out : Int32 × v_M} (h : f_X12_machine_L13 N n x1 M = some out) : v_fr [88, 89, 90, 91, 92, 93] [(79, 3)] M out.2 := fv_X12_machine_L13 n x1 M h
theorem fr_X12_machine {N : Nat} {M : v_M} {out : Int32 × v_M} (h : f_X12_machine N M = some out) : v_fr [88, 89, 90, 91, 92, 93] [(79, 3)] M out.2 := by
  have fM : v_fr [88, 89, 90, 91, 92, 93] [(79, 3)] M M := v_frR
  unfold f_X12_machine at h
  rcases v_iteS h with ⟨c, h⟩ | ⟨c, h⟩
  · have h := Option.some.inj h
    subst h
    exact fM
  · exact v_frT fM (fw_X12_machine_L13 h)
theorem fr_X12_feed {N : Nat} {x1 : Int32} {x2 : Int32} {x3 : Int32} {x4 : Int32} {x5 : Int32} {M : v_M} {out : Int32 × v_M} (h : f_X12_feed N x1 x2 x3 x4 x5 M = some out) : v_fr [107] [(79, 32)] M out.2 := by
  have fM : v_fr [107] [(79, 32)] M M := v_frR
  unfold f_X12_feed at h
  rcases v_iteS h with ⟨c, h⟩ | ⟨c, h⟩
  · obtain ⟨z1, hz1, h⟩ := v_bdS h
    have fz1 : v_fr [107] [(79, 32)] M z1.2 := v_frt (by simp) (by simp) fM (fr_X12_put hz1)
    obtain ⟨z2, hz2, h⟩ := v_bdS h
    have fz2 : v_fr [107] [(79, 32)] M z2.2 := v_frt (by simp) (by simp) fz1 (fr_X12_put hz2)
    obtain ⟨z3, hz3, h⟩ := v_bdS h
    have fz3 : v_fr [107] [(79, 32)] M z3.2 := v_frt (by simp) (by simp) fz2 (fr_X12_put hz3)
    obtain ⟨z4, hz4, h⟩ := v_bdS h
    have fz4 : v_fr [107] [(79, 32)] M z4.2 := v_frt (by simp) (by simp) fz3 (fr_X12_put hz4)
    obtain ⟨z5, hz5, h⟩ := v_bdS h
    have fz5 : v_fr [107] [(79, 32)] M z5.2 := v_frt (by simp) (by simp) fz4 (fr_X12_put hz5)
    have h := Option.some.inj h
    subst h
    exact fz5
  · have h := Option.some.inj h
    subst h
    exact fM
theorem fw_X12_binds_L333 {N : Nat} {M : v_M} {out : Int32 × v_M} (h : f_X12_binds_L333 N M = some out) : v_fr [120, 121] [(79, 55), (79, 56), (79, 57), (79, 58), (79, 59)] M out.2 := by
  have fM : v_fr [120, 121] [(79, 55), (79, 56), (79, 57), (79, 58), (79, 59)] M M := v_frR
  unfold f_X12_binds_L333 at h
  obtain ⟨hb, h⟩ := v_ckS h
  obtain ⟨M1, eM1, h⟩ := v_ltM h
  have fM1 : v_fr [120, 121] [(79, 55), (79, 56), (79, 57), (79, 58), (79, 59)] M M1 := by rw [eM1]; exact v_fro (by simp) fM
  have h := Option.some.inj h
  subst h
  exact fM1
theorem fw_X12_binds_L312 {N : Nat} {x1 : Int32} {x2 : Int32} {x3 : Int32} {M : v_M} {out : Int32 × v_M} {k150 : Int32 → Int32 → Int32 → v_M → Option (Int32 × v_M)} (hk150 : ∀ (x1 : Int32) (x2 : Int32) (x3 : Int32) (M : v_M), k150 x1 x2 x3 M = some out → v_fr [120, 121] [(79, 55), (79, 56), (79, 57), (79, 58), (79, 59)] M out.2) (h : f_X12_binds_L312 N k150 x1 x2 x3 M = some out) : v_fr [120, 121] [(79, 55), (79, 56), (79, 57), (79, 58), (79, 59)] M out.2 := by
  have fM : v_fr [120, 121] [(79, 55), (79, 56), (79, 57), (79, 58), (79, 59)] M M := v_frR
  unfold f_X12_binds_L312 at h
  exact v_frT fM (hk150 _ _ _ _ h)
theorem fw_X12_binds_L306 {N : Nat} {x1 : Int32} {x2 : Int32} {x3 : Int32} {x4 : Int32} {x5 : Int32} {M : v_M} {out : Int32 × v_M} {k150 : Int32 → Int32 → Int32 → v_M → Option (Int32 × v_M)} (hk150 : ∀ (x1 : Int32) (x2 : Int32) (x3 : Int32) (M : v_M), k150 x1 x2 x3 M = some out → v_fr [120, 121] [(79, 55), (79, 56), (79, 57), (79, 58), (79, 59)] M out.2) {k236 : Int32 → Int32 → Int32 → Int32 → Int32 → v_M → Option (Int32 × v_M)} (hk236 : ∀ (x1 : Int32) (x2 : Int32) (x3 : Int32) (x4 : Int32) (x5 : Int32) (M : v_M), k236 x1 x2 x3 x4 x5 M = some out → v_fr [120, 121] [(79, 55), (79, 56), (79, 57), (79, 58), (79, 59)] M out.2) (h : f_X12_binds_L306 N k150 k236 x1 x2 x3 x4 x5 M = some out) : v_fr [120, 121] [(79, 55), (79, 56), (79, 57), (79, 58), (79, 59)] M out.2 := by
  have fM : v_fr [120, 121] [(79, 55), (79, 56), (79, 57), (79, 58), (79, 59)] M M := v_frR
  unfold f_X12_binds_L306 at h
  exact v_frT fM (hk236 _ _ _ _ _ _ h)
theorem fw_X12_binds_L298 {N : Nat} {x1 : Int32} {x2 : Int32} {x3 : Int32} {x4 : Int32} {x5 : Int32} {M : v_M} {out : Int32 × v_M} {k150 : Int32 → Int32 → Int32 → v_M → Option (Int32 × v_M)} (hk150 : ∀ (x1 : Int32) (x2 : Int32) (x3 : Int32) (M : v_M), k150 x1 x2 x3 M = some out → v_fr [120, 121] [(79, 55), (79, 56), (79, 57), (79, 58), (79, 59)] M out.2) {k236 : Int32 → Int32 → Int32 → Int32 → Int32 → v_M → Option (Int32 × v_M)} (hk236 : ∀ (x1 : Int32) (x2 : Int32) (x3 : Int32) (x4 : Int32) (x5 : Int32) (M : v_M), k236 x1 x2 x3 x4 x5 M = some out → v_fr [120, 121] [(79, 55), (79, 56), (79, 57), (79, 58), (79, 59)] M out.2) (h : f_X12_binds_L298 N k150 k236 x1 x2 x3 x4 x5 M = some out) : v_fr [120, 121] [(79, 55), (79, 56), (79, 57), (79, 58), (79, 59)] M out.2 := by
  have fM : v_fr [120, 121] [(79, 55), (79, 56), (79, 57), (79, 58), (79, 59)] M M := v_frR
  unfold f_X12_binds_L298 at h
  obtain ⟨z1, hz1, h⟩ := v_bdS h
  have fz1 : v_fr [120, 121] [(79, 55), (79, 56), (79, 57), (79, 58), (79, 59)] M z1.2 := v_frt (by simp) (by simp) fM (fr_X12_binds_ hz1)
  exact v_frT fz1 (fw_X12_binds_L306 hk150 hk236 h)
theorem fv_X12_binds_L236 {N : Nat} {out : Int32 × v_M} {k150 : Int32 → Int32 → Int32 → v_M → Option (Int32 × v_M)} (hk150 : ∀ (x1 : Int32) (x2 : Int32) (x3 : Int32) (M : v_M), k150 x1 x2 x3 M = some out → v_fr [120, 121] [(79, 55), (79, 56), (79, 57), (79, 58), (79, 59)] M out.2) (n : Nat) : ∀ (x1 : Int32) (x2 : Int32) (x3 : Int32) (x4 : Int32) (x5 : Int32) (M : v_M), f_X12_binds_L236 N k150 n x1 x2 x3 x4 x5 M = some out → v_fr [120, 121] [(79, 55), (79, 56), (79, 57), (79, 58), (79, 59)] M out.2 := by
  induction n with
  | zero => intro x1 x2 x3 x4 x5 M h; rw [f_X12_binds_L236] at h; cases h
  | succ n ih =>
    intro x1 x2 x3 x4 x5 M h
    have fM : v_fr [120, 121] [(79, 55), (79, 56), (79, 57), (79, 58), (79, 59)] M M := v_frR
    rw [f_X12_binds_L236] at h
    obtain ⟨hb, h⟩ := v_ckS h
    rcases v_iteS h with ⟨c, h⟩ | ⟨c, h⟩
    · exact v_frT fM (fw_X12_binds_L312 hk150 h)
    · rcases v_iteS h with ⟨c, h⟩ | ⟨c, h⟩
      · exact v_frT fM (fw_X12_binds_L312 hk150 h)
      · obtain ⟨hb, h⟩ := v_ckS h
        obtain ⟨hb, h⟩ := v_ckS h
        rcases v_iteS h with ⟨c, h⟩ | ⟨c, h⟩
        · exact v_frT fM (fw_X12_binds_L298 hk150 ih h)
        · obtain ⟨hb, h⟩ := v_ckS h
          obtain ⟨hb, h⟩ := v_ckS h
          obtain ⟨z1, hz1, h⟩ := v_bdS h
          have fz1 : v_fr [120, 121] [(79, 55), (79, 56), (79, 57), (79, 58), (79, 59)] M z1.2 := v_frt (by simp) (by simp) fM (fr_X12_answer hz1)
          rcases v_iteS h with ⟨c, h⟩ | ⟨c, h⟩
          · exact v_frT fz1 (fw_X12_binds_L298 hk150 ih h)
          · exact v_frT fz1 (fw_X12_binds_L306 hk150 ih h)
theorem fw_X12_binds_L236 {N n : Nat} {x1 : Int32} {x2 : Int32} {x3 : Int32} {x4 : Int32} {x5 : Int32} {M : v_M} {out : Int32 × v_M} {k150 : Int32 → Int32 → Int32 → v_M → Option (Int32 × v_M)} (hk150 : ∀ (x1 : Int32) (x2 : Int32) (x3 : Int32) (M : v_M), k150 x1 x2 x3 M = some out → v_fr [120, 121] [(79, 55), (79, 56), (79, 57), (79, 58), (79, 59)] M out.2) (h : f_X12_binds_L236 N k150 n x1 x2 x3 x4 x5 M = some out) : v_fr [120, 121] [(79, 55), (79, 56), (79, 57), (79, 58), (79, 59)] M out.2 := fv_X12_binds_L236 hk150 n x1 x2 x3 x4 x5 M h
theorem fw_X12_binds_L209 {N : Nat} {x1 : Int32} {x2 : Int32} {x3 : Int32} {t0 : Int32} {M : v_M} {out : Int32 × v_M} {k150 : Int32 → Int32 → Int32 → v_M → Option (Int32 × v_M)} (hk150 : ∀ (x1 : Int32) (x2 : Int32) (x3 : Int32) (M : v_M), k150 x1 x2 x3 M = some out → v_fr [120, 121] [(79, 55), (79, 56), (79, 57), (79, 58), (79, 59)] M out.2) (h : f_X12_binds_L209 N k150 x1 x2 x3 t0 M = some out) : v_fr [120, 121] [(79, 55), (79, 56), (79, 57), (79, 58), (79, 59)] M out.2 := by
  have fM : v_fr [120, 121] [(79, 55), (79, 56), (79, 57), (79, 58), (79, 59)] M M := v_frR
  unfold f_X12_binds_L209 at h
  obtain ⟨hb, h⟩ := v_ckS h
  obtain ⟨hb, h⟩ := v_ckS h
  obtain ⟨M1, eM1, h⟩ := v_ltM h
  have fM1 : v_fr [120, 121] [(79, 55), (79, 56), (79, 57), (79, 58), (79, 59)] M M1 := by rw [eM1]; exact v_frl (by simp) fM
  obtain ⟨y2, ey2, h⟩ := v_ltM h
  exact v_frT fM1 (fw_X12_binds_L236 hk150 h)
theorem fw_X12_binds_L208 {N : Nat} {x1 : Int32} {x2 : Int32} {x3 : Int32} {M : v_M} {out : Int32 × v_M} {k150 : Int32 → Int32 → Int32 → v_M → Option (Int32 × v_M)} (hk150 : ∀ (x1 : Int32) (x2 : Int32) (x3 : Int32) (M : v_M), k150 x1 x2 x3 M = some out → v_fr [120, 121] [(79, 55), (79, 56), (79, 57), (79, 58), (79, 59)] M out.2) (h : f_X12_binds_L208 N k150 x1 x2 x3 M = some out) : v_fr [120, 121] [(79, 55), (79, 56), (79, 57), (79, 58), (79, 59)] M out.2 := by
  have fM : v_fr [120, 121] [(79, 55), (79, 56), (79, 57), (79, 58), (79, 59)] M M := v_frR
  unfold f_X12_binds_L208 at h
  exact v_frT fM (fw_X12_binds_L209 hk150 h)
theorem fw_X12_binds_L204 {N : Nat} {x1 : Int32} {x2 : Int32} {x3 : Int32} {M : v_M} {out : Int32 × v_M} {k150 : Int32 → Int32 → Int32 → v_M → Option (Int32 × v_M)} (hk150 : ∀ (x1 : Int32) (x2 : Int32) (x3 : Int32) (M : v_M), k150 x1 x2 x3 M = some out → v_fr [120, 121] [(79, 55), (79, 56), (79, 57), (79, 58), (79, 59)] M out.2) (h : f_X12_binds_L204 N k150 x1 x2 x3 M = some out) : v_fr [120, 121] [(79, 55), (79, 56), (79, 57), (79, 58), (79, 59)] M out.2 := by
  have fM : v_fr [120, 121] [(79, 55), (79, 56), (79, 57), (79, 58), (79, 59)] M M := v_frR
  unfold f_X12_binds_L204 at h
  exact v_frT fM (fw_X12_binds_L209 hk150 h)
theorem fv_X12_binds_L150 {N : Nat} {out : Int32 × v_M} (n : Nat) : ∀ (x1 : Int32) (x2 : Int32) (x3 : Int32) (M : v_M), f_X12_binds_L150 N n x1 x2 x3 M = some out → v_fr [120, 121] [(79, 55), (79, 56), (79, 57), (79, 58), (79, 59)] M out.2 := by
  induction n with
  | zero => intro x1 x2 x3 M h; rw [f_X12_binds_L150] at h; cases h
  | succ n ih =>
    intro x1 x2 x3 M h
    have fM : v_fr [120, 121] [(79, 55), (79, 56), (79, 57), (79, 58), (79, 59)] M M := v_frR
    rw [f_X12_binds_L150] at h
    rcases v_iteS h with ⟨c, h⟩ | ⟨c, h⟩
    · rcases v_iteS h with ⟨c, h⟩ | ⟨c, h⟩
      · rcases v_iteS h with ⟨c, h⟩ | ⟨c, h⟩
        · obtain ⟨hb, h⟩ := v_ckS h
          obtain ⟨M1, eM1, h⟩ := v_ltM h
          have fM1 : v_fr [120, 121] [(79, 55), (79, 56), (79, 57), (79, 58), (79, 59)] M M1 := by rw [eM1]; exact v_fro (by simp) fM
          have h := Option.some.inj h
          subst h
          exact fM1
        · exact v_frT fM (fw_X12_binds_L333 h)
      · exact v_frT fM (fw_X12_binds_L333 h)
    · obtain ⟨hb, h⟩ := v_ckS h
      rcases v_iteS h with ⟨c, h⟩ | ⟨c, h⟩
      · exact v_frT fM (fw_X12_binds_L208 ih h)
      · obtain ⟨hb, h⟩ := v_ckS h
        rcases v_iteS h with ⟨c, h⟩ | ⟨c, h⟩
        · exact v_frT fM (fw_X12_binds_L204 ih h)
        · obtain ⟨hb, h⟩ := v_ckS h
          rcases v_iteS h with ⟨c, h⟩ | ⟨c, h⟩
          · obtain ⟨hb, h⟩ := v_ckS h
            rcases v_iteS h with ⟨c, h⟩ | ⟨c, h⟩
            · exact v_frT fM (fw_X12_binds_L204 ih h)
            · exact v_frT fM (fw_X12_binds_L208 ih h)
          · exact v_frT fM (fw_X12_binds_L208 ih h)
theorem fw_X12_binds_L150 {N n : Nat} {x1 : Int32} {x2 : Int32} {x3 : Int32} {M : v_M} {out : Int32 × v_M} (h : f_X12_binds_L150 N n x1 x2 x3 M = some out) : v_fr [120, 121] [(79, 55), (79, 56), (79, 57), (79, 58), (79, 59)] M out.2 := fv_X12_binds_L150 n x1 x2 x3 M h
theorem fv_X12_binds_L65 {N : Nat} {out : Int32 × v_M} (n : Nat) : ∀ (x1 : Int32) (x2 : Int32) (x3 : Int32) (M : v_M), f_X12_binds_L65 N n x1 x2 x3 M = some out → v_fr [120, 121] [(79, 55), (79, 56), (79, 57), (79, 58), (79, 59)] M out.2 := by
  induction n with
  | zero => intro x1 x2 x3 M h; rw [f_X12_binds_L65] at h; cases h
  | succ n ih =>
    intro x1 x2 x3 M h
    have fM : v_fr [120, 121] [(79, 55), (79, 56), (79, 57), (79, 58), (79, 59)] M M := v_frR
    rw [f_X12_binds_L65] at h
    rcases v_iteS h with ⟨c, h⟩ | ⟨c, h⟩
    · obtain ⟨M1, eM1, h⟩ := v_ltM h
      have fM1 : v_fr [120, 121] [(79, 55), (79, 56), (79, 57), (79, 58), (79, 59)] M M1 := by rw [eM1]; exact v_fro (by simp) fM
      obtain ⟨M2, eM2, h⟩ := v_ltM h
      have fM2 : v_fr [120, 121] [(79, 55), (79, 56), (79, 57), (79, 58), (79, 59)] M M2 := by rw [eM2]; exact v_fro (by simp) fM1
      obtain ⟨M3, eM3, h⟩ := v_ltM h
      have fM3 : v_fr [120, 121] [(79, 55), (79, 56), (79, 57), (79, 58), (79, 59)] M M3 := by rw [eM3]; exact v_fro (by simp) fM2
      obtain ⟨M4, eM4, h⟩ := v_ltM h
      have fM4 : v_fr [120, 121] [(79, 55), (79, 56), (79, 57), (79, 58), (79, 59)] M M4 := by rw [eM4]; exact v_fro (by simp) fM3
      obtain ⟨hb, h⟩ := v_ckS h
      obtain ⟨M5, eM5, h⟩ := v_ltM h
      have fM5 : v_fr [120, 121] [(79, 55), (79, 56), (79, 57), (79, 58), (79, 59)] M M5 := by rw [eM5]; exact v_fro (by simp) fM4
      exact v_frT fM5 (fw_X12_binds_L150 h)
    · obtain ⟨hb, h⟩ := v_ckS h
      obtain ⟨hb, h⟩ := v_ckS h
      obtain ⟨hb, h⟩ := v_ckS h
      obtain ⟨M6, eM6, h⟩ := v_ltM h
      have fM6 : v_fr [120, 121] [(79, 55), (79, 56), (79, 57), (79, 58), (79, 59)] M M6 := by rw [eM6]; exact v_frl (by simp) fM
      obtain ⟨hb, h⟩ := v_ckS h
      obtain ⟨hb, h⟩ := v_ckS h
      obtain ⟨hb, h⟩ := v_ckS h
      obtain ⟨M7, eM7, h⟩ := v_ltM h
      have fM7 : v_fr [120, 121] [(79, 55), (79, 56), (79, 57), (79, 58), (79, 59)] M M7 := by rw [eM7]; exact v_frl (by simp) fM6
      exact v_frT fM7 (ih _ _ _ _ h)
theorem fw_X12_binds_L65 {N n : Nat} {x1 : Int32} {x2 : Int32} {x3 : Int32} {M : v_M} {out : Int32 × v_M} (h : f_X12_binds_L65 N n x1 x2 x3 M = some out) : v_fr [120, 121] [(79, 55), (79, 56), (79, 57), (79, 58), (79, 59)] M out.2 := fv_X12_binds_L65 n x1 x2 x3 M h
theorem fr_X12_binds {N : Nat} {x1 : Int32} {M : v_M} {out : Int32 × v_M} (h : f_X12_binds N x1 M = some out) : v_fr [120, 121] [(79, 55), (79, 56), (79, 57), (79, 58), (79, 59)] M out.2 := by
  have fM : v_fr [120, 121] [(79, 55), (79, 56), (79, 57), (79, 58), (79, 59)] M M := v_frR
  unfold f_X12_binds at h
  obtain ⟨z1, hz1, h⟩ := v_bdS h
  have fz1 : v_fr [120, 121] [(79, 55), (79, 56), (79, 57), (79, 58), (79, 59)] M z1.2 := v_frt (by simp) (by simp) fM (fr_X12_doneOf hz1)
  obtain ⟨y2, ey2, h⟩ := v_ltM h
  obtain ⟨hb, h⟩ := v_ckS h
  obtain ⟨M3, eM3, h⟩ := v_ltM h
  have fM3 : v_fr [120, 121] [(79, 55), (79, 56), (79, 57), (79, 58), (79, 59)] M M3 := by rw [eM3]; exact v_frl (by simp) fz1
  obtain ⟨hb, h⟩ := v_ckS h
  obtain ⟨M4, eM4, h⟩ := v_ltM h
  have fM4 : v_fr [120, 121] [(79, 55), (79, 56), (79, 57), (79, 58), (79, 59)] M M4 := by rw [eM4]; exact v_frl (by simp) fM3
  obtain ⟨hb, h⟩ := v_ckS h
  obtain ⟨hb, h⟩ := v_ckS h
  obtain ⟨M5, eM5, h⟩ := v_ltM h
  have fM5 : v_fr [120, 121] [(79, 55), (79, 56), (79, 57), (79, 58), (79, 59)] M M5 := by rw [eM5]; exact v_frl (by simp) fM4
  obtain ⟨hb, h⟩ := v_ckS h
  obtain ⟨M6, eM6, h⟩ := v_ltM h
  have fM6 : v_fr [120, 121] [(79, 55), (79, 56), (79, 57), (79, 58), (79, 59)] M M6 := by rw [eM6]; exact v_frl (by simp) fM5
  obtain ⟨hb, h⟩ := v_ckS h
  obtain ⟨M7, eM7, h⟩ := v_ltM h
  have fM7 : v_fr [120, 121] [(79, 55), (79, 56), (79, 57), (79, 58), (79, 59)] M M7 := by rw [eM7]; exact v_frl (by simp) fM6
  obtain ⟨z8, hz8, h⟩ := v_bdS h
  have fz8 : v_fr [120, 121] [(79, 55), (79, 56), (79, 57), (79, 58), (79, 59)] M z8.2 := v_frt (by simp) (by simp) fM7 (fr_X12_bits hz8)
  obtain ⟨hb, h⟩ := v_ckS h
  obtain ⟨M9, eM9, h⟩ := v_ltM h
  have fM9 : v_fr [120, 121] [(79, 55), (79, 56), (79, 57), (79, 58), (79, 59)] M M9 := by rw [eM9]; exact v_frl (by simp) fz8
  exact v_frT fM9 (fw_X12_binds_L65 h)
theorem fr_X12_bound {N : Nat} {x1 : Int32} {x2 : Int32} {M : v_M} {out : Int32 × v_M} (h : f_X12_bound N x1 x2 M = some out) : v_fr [120, 121] [(79, 55), (79, 56), (79, 57), (79, 58), (79, 59)] M out.2 := by
  have fM : v_fr [120, 121] [(79, 55), (79, 56), (79, 57), (79, 58), (79, 59)] M M := v_frR
  unfold f_X12_bound at h
  obtain ⟨z1, hz1, h⟩ := v_bdS h
  have fz1 : v_fr [120, 121] [(79, 55), (79, 56), (79, 57), (79, 58), (79, 59)] M z1.2 := v_frt (by simp) (by simp) fM (fr_X12_isMachine hz1)
  rcases v_iteS h with ⟨c, h⟩ | ⟨c, h⟩
  · have h := Option.some.inj h
    subst h
    exact fz1
  · obtain ⟨z2, hz2, h⟩ := v_bdS h
    have fz2 : v_fr [120, 121] [(79, 55), (79, 56), (79, 57), (79, 58), (79, 59)] M z2.2 := v_frt (by simp) (by simp) fz1 (fr_X12_in hz2)
    rcases v_iteS h with ⟨c, h⟩ | ⟨c, h⟩
    · have h := Option.some.inj h
      subst h
      exact fz2
    · obtain ⟨z3, hz3, h⟩ := v_bdS h
      have fz3 : v_fr [120, 121] [(79, 55), (79, 56), (79, 57), (79, 58), (79, 59)] M z3.2 := v_frt (by simp) (by simp) fz2 (fr_X12_binds hz3)
      rcases v_iteS h with ⟨c, h⟩ | ⟨c, h⟩
      · have h := Option.some.inj h
        subst h
        exact fz3
      · rcases v_iteS h with ⟨c, h⟩ | ⟨c, h⟩
        · have h := Option.some.inj h
          subst h
          exact fz3
        · rcases v_iteS h with ⟨c, h⟩ | ⟨c, h⟩
          · have h := Option.some.inj h
            subst h
            exact fz3
          · rcases v_iteS h with ⟨c, h⟩ | ⟨c, h⟩
            · have h := Option.some.inj h
              subst h
              exact fz3
            · rcases v_iteS h with ⟨c, h⟩ | ⟨c, h⟩
              · have h := Option.some.inj h
                subst h
                exact fz3
              · have h := Option.some.inj h
                subst h
                exact fz3
theorem fw_X12_finds_L233 {N : Nat} {x2 : Int32} {x3 : Int32} {x4 : Int32} {x5 : Int32} {M : v_M} {out : Int32 × v_M} {k42 : Int32 → Int32 → Int32 → v_M → Option (Int32 × v_M)} (hk42 : ∀ (x2 : Int32) (x3 : Int32) (x4 : Int32) (M : v_M), k42 x2 x3 x4 M = some out → v_fr [127, 133, 136, 137, 138, 139] [] M out.2) {k51 : Int32 → Int32 → Int32 → Int32 → v_M → Option (Int32 × v_M)} (hk51 : ∀ (x2 : Int32) (x3 : Int32) (x4 : Int32) (x5 : Int32) (M : v_M), k51 x2 x3 x4 x5 M = some out → v_fr [127, 133, 136, 137, 138, 139] [] M out.2) (h : f_X12_finds_L233 N k42 k51 x2 x3 x4 x5 M = some out) : v_fr [127, 133, 136, 137, 138, 139] [] M out.2 := by
  have fM : v_fr [127, 133, 136, 137, 138, 139] [] M M := v_frR
  unfold f_X12_finds_L233 at h
  exact v_frT fM (hk51 _ _ _ _ _ h)
theorem fw_X12_finds_L227 {N : Nat} {x2 : Int32} {x3 : Int32} {x4 : Int32} {x5 : Int32} {x6 : Int32} {x7 : Int32} {M : v_M} {out : Int32 × v_M} {k42 : Int32 → Int32 → Int32 → v_M → Option (Int32 × v_M)} (hk42 : ∀ (x2 : Int32) (x3 : Int32) (x4 : Int32) (M : v_M), k42 x2 x3 x4 M = some out → v_fr [127, 133, 136, 137, 138, 139] [] M out.2) {k51 : Int32 → Int32 → Int32 → Int32 → v_M → Option (Int32 × v_M)} (hk51 : ∀ (x2 : Int32) (x3 : Int32) (x4 : Int32) (x5 : Int32) (M : v_M), k51 x2 x3 x4 x5 M = some out → v_fr [127, 133, 136, 137, 138, 139] [] M out.2) {k147 : Int32 → Int32 → Int32 → Int32 → Int32 → Int32 → v_M → Option (Int32 × v_M)} (hk147 : ∀ (x2 : Int32) (x3 : Int32) (x4 : Int32) (x5 : Int32) (x6 : Int32) (x7 : Int32) (M : v_M), k147 x2 x3 x4 x5 x6 x7 M = some out → v_fr [127, 133, 136, 137, 138, 139] [] M out.2) (h : f_X12_finds_L227 N k42 k51 k147 x2 x3 x4 x5 x6 x7 M = some out) : v_fr [127, 133, 136, 137, 138, 139] [] M out.2 := by
  have fM : v_fr [127, 133, 136, 137, 138, 139] [] M M := v_frR
  unfold f_X12_finds_L227 at h
  exact v_frT fM (hk147 _ _ _ _ _ _ _ h)
theorem fv_X12_finds_L147 {N : Nat} {out : Int32 × v_M} {k42 : Int32 → Int32 → Int32 → v_M → Option (Int32 × v_M)} (hk42 : ∀ (x2 : Int32) (x3 : Int32) (x4 : Int32) (M : v_M), k42 x2 x3 x4 M = some out → v_fr [127, 133, 136, 137, 138, 139] [] M out.2) {k51 : Int32 → Int32 → Int32 → Int32 → v_M → Option (Int32 × v_M)} (hk51 : ∀ (x2 : Int32) (x3 : Int32) (x4 : Int32) (x5 : Int32) (M : v_M), k51 x2 x3 x4 x5 M = some out → v_fr [127, 133, 136, 137, 138, 139] [] M out.2) (n : Nat) : ∀ (x2 : Int32) (x3 : Int32) (x4 : Int32) (x5 : Int32) (x6 : Int32) (x7 : Int32) (M : v_M), f_X12_finds_L147 N k42 k51 n x2 x3 x4 x5 x6 x7 M = some out → v_fr [127, 133, 136, 137, 138, 139] [] M out.2 := by
  induction n with
  | zero => intro x2 x3 x4 x5 x6 x7 M h; rw [f_X12_finds_L147] at h; cases h
  | succ n ih =>
    intro x2 x3 x4 x5 x6 x7 M h
    have fM : v_fr [127, 133, 136, 137, 138, 139] [] M M := v_frR
    rw [f_X12_finds_L147] at h
    rcases v_iteS h with ⟨c, h⟩ | ⟨c, h⟩
    · exact v_frT fM (fw_X12_finds_L233 hk42 hk51 h)
    · obtain ⟨hb, h⟩ := v_ckS h
      rcases v_iteS h with ⟨c, h⟩ | ⟨c, h⟩
      · exact v_frT fM (fw_X12_finds_L227 hk42 hk51 ih h)
      · obtain ⟨hb, h⟩ := v_ckS h
        obtain ⟨hb, h⟩ := v_ckS h
        rcases v_iteS h with ⟨c, h⟩ | ⟨c, h⟩
        · obtain ⟨z1, hz1, h⟩ := v_bdS h
          have fz1 : v_fr [127, 133, 136, 137, 138, 139] [] M z1.2 := v_frt (by simp) (by simp) fM (fr_X12_isIn hz1)
          rcases v_iteS h with ⟨c, h⟩ | ⟨c, h⟩
          · obtain ⟨hb, h⟩ := v_ckS h
            obtain ⟨hb, h⟩ := v_ckS h
            obtain ⟨M2, eM2, h⟩ := v_ltM h
            have fM2 : v_fr [127, 133, 136, 137, 138, 139] [] M M2 := by rw [eM2]; exact v_frw (by simp) fz1
            obtain ⟨hb, h⟩ := v_ckS h
            obtain ⟨M3, eM3, h⟩ := v_ltM h
            have fM3 : v_fr [127, 133, 136, 137, 138, 139] [] M M3 := by rw [eM3]; exact v_frw (by simp) fM2
            obtain ⟨hb, h⟩ := v_ckS h
            obtain ⟨M4, eM4, h⟩ := v_ltM h
            have fM4 : v_fr [127, 133, 136, 137, 138, 139] [] M M4 := by rw [eM4]; exact v_frw (by simp) fM3
            exact v_frT fM4 (fw_X12_finds_L227 hk42 hk51 ih h)
          · exact v_frT fz1 (fw_X12_finds_L227 hk42 hk51 ih h)
        · exact v_frT fM (fw_X12_finds_L227 hk42 hk51 ih h)
theorem fw_X12_finds_L147 {N n : Nat} {x2 : Int32} {x3 : Int32} {x4 : Int32} {x5 : Int32} {x6 : Int32} {x7 : Int32} {M : v_M} {out : Int32 × v_M} {k42 : Int32 → Int32 → Int32 → v_M → Option (Int32 × v_M)} (hk42 : ∀ (x2 : Int32) (x3 : Int32) (x4 : Int32) (M : v_M), k42 x2 x3 x4 M = some out → v_fr [127, 133, 136, 137, 138, 139] [] M out.2) {k51 : Int32 → Int32 → Int32 → Int32 → v_M → Option (Int32 × v_M)} (hk51 : ∀ (x2 : Int32) (x3 : Int32) (x4 : Int32) (x5 : Int32) (M : v_M), k51 x2 x3 x4 x5 M = some out → v_fr [127, 133, 136, 137, 138, 139] [] M out.2) (h : f_X12_finds_L147 N k42 k51 n x2 x3 x4 x5 x6 x7 M = some out) : v_fr [127, 133, 136, 137, 138, 139] [] M out.2 := fv_X12_finds_L147 hk42 hk51 n x2 x3 x4 x5 x6 x7 M h
theorem fv_X12_finds_L51 {N : Nat} {out : Int32 × v_M} {k42 : Int32 → Int32 → Int32 → v_M → Option (Int32 × v_M)} (hk42 : ∀ (x2 : Int32) (x3 : Int32) (x4 : Int32) (M : v_M), k42 x2 x3 x4 M = some out → v_fr [127, 133, 136, 137, 138, 139] [] M out.2) (n : Nat) : ∀ (x2 : Int32) (x3 : Int32) (x4 : Int32) (x5 : Int32) (M : v_M), f_X12_finds_L51 N k42 n x2 x3 x4 x5 M = some out → v_fr [127, 133, 136, 137, 138, 139] [] M out.2 := by
  induction n with
  | zero => intro x2 x3 x4 x5 M h; rw [f_X12_finds_L51] at h; cases h
  | succ n ih =>
    intro x2 x3 x4 x5 M h
    have fM : v_fr [127, 133, 136, 137, 138, 139] [] M M := v_frR
    rw [f_X12_finds_L51] at h
    rcases v_iteS h with ⟨c, h⟩ | ⟨c, h⟩
    · exact v_frT fM (hk42 _ _ _ _ h)
    · obtain ⟨hb, h⟩ := v_ckS h
      obtain ⟨y1, ey1, h⟩ := v_ltM h
      obtain ⟨hb, h⟩ := v_ckS h
      obtain ⟨z2, hz2, h⟩ := v_bdS h
      have fz2 : v_fr [127, 133, 136, 137, 138, 139] [] M z2.2 := v_frt (by simp) (by simp) fM (fr_X12_fits hz2)
      rcases v_iteS h with ⟨c, h⟩ | ⟨c, h⟩
      · exact v_frT fz2 (fw_X12_finds_L233 hk42 ih h)
      · obtain ⟨hb, h⟩ := v_ckS h
        rcases v_iteS h with ⟨c, h⟩ | ⟨c, h⟩
        · obtain ⟨hb, h⟩ := v_ckS h
          obtain ⟨M3, eM3, h⟩ := v_ltM h
          have fM3 : v_fr [127, 133, 136, 137, 138, 139] [] M M3 := by rw [eM3]; exact v_frw (by simp) fz2
          obtain ⟨hb, h⟩ := v_ckS h
          rcases v_iteS h with ⟨c, h⟩ | ⟨c, h⟩
          · exact v_frT fM3 (fw_X12_finds_L147 hk42 ih h)
          · obtain ⟨hb, h⟩ := v_ckS h
            obtain ⟨hb, h⟩ := v_ckS h
            obtain ⟨M4, eM4, h⟩ := v_ltM h
            have fM4 : v_fr [127, 133, 136, 137, 138, 139] [] M M4 := by rw [eM4]; exact v_frw (by simp) fM3
            obtain ⟨hb, h⟩ := v_ckS h
            obtain ⟨z5, hz5, h⟩ := v_bdS h
            have fz5 : v_fr [127, 133, 136, 137, 138, 139] [] M z5.2 := v_frt (by simp) (by simp) fM4 (fr_X12_gives hz5)
            obtain ⟨hb, h⟩ := v_ckS h
            have h := Option.some.inj h
            subst h
            exact fz5
        · exact v_frT fz2 (fw_X12_finds_L233 hk42 ih h)
theorem fw_X12_finds_L51 {N n : Nat} {x2 : Int32} {x3 : Int32} {x4 : Int32} {x5 : Int32} {M : v_M} {out : Int32 × v_M} {k42 : Int32 → Int32 → Int32 → v_M → Option (Int32 × v_M)} (hk42 : ∀ (x2 : Int32) (x3 : Int32) (x4 : Int32) (M : v_M), k42 x2 x3 x4 M = some out → v_fr [127, 133, 136, 137, 138, 139] [] M out.2) (h : f_X12_finds_L51 N k42 n x2 x3 x4 x5 M = some out) : v_fr [127, 133, 136, 137, 138, 139] [] M out.2 := fv_X12_finds_L51 hk42 n x2 x3 x4 x5 M h
theorem fv_X12_finds_L42 {N : Nat} {out : Int32 × v_M} (n : Nat) : ∀ (x2 : Int32) (x3 : Int32) (x4 : Int32) (M : v_M), f_X12_finds_L42 N n x2 x3 x4 M = some out → v_fr [127, 133, 136, 137, 138, 139] [] M out.2 := by
  induction n with
  | zero => intro x2 x3 x4 M h; rw [f_X12_finds_L42] at h; cases h
  | succ n ih =>
    intro x2 x3 x4 M h
    have fM : v_fr [127, 133, 136, 137, 138, 139] [] M M := v_frR
    rw [f_X12_finds_L42] at h
    rcases v_iteS h with ⟨c, h⟩ | ⟨c, h⟩
    · obtain ⟨hb, h⟩ := v_ckS h
      have h := Option.some.inj h
      subst h
      exact fM
    · exact v_frT fM (fw_X12_finds_L51 ih h)
theorem fw_X12_finds_L42 {N n : Nat} {x2 : Int32} {x3 : Int32} {x4 : Int32} {M : v_M} {out : Int32 × v_M} (h : f_X12_finds_L42 N n x2 x3 x4 M = some out) : v_fr [127, 133, 136, 137, 138, 139] [] M out.2 := fv_X12_finds_L42 n x2 x3 x4 M h
theorem fv_X12_finds_L2 {N : Nat} {out : Int32 × v_M} (n : Nat) : ∀ (x1 : Int32) (x2 : Int32) (x3 : Int32) (M : v_M), f_X12_finds_L2 N n x1 x2 x3 M = some out → v_fr [127, 133, 136, 137, 138, 139] [] M out.2 := by
  induction n with
  | zero => intro x1 x2 x3 M h; rw [f_X12_finds_L2] at h; cases h
  | succ n ih =>
    intro x1 x2 x3 M h
    have fM : v_fr [127, 133, 136, 137, 138, 139] [] M M := v_frR
    rw [f_X12_finds_L2] at h
    rcases v_iteS h with ⟨c, h⟩ | ⟨c, h⟩
    · obtain ⟨hb, h⟩ := v_ckS h
      obtain ⟨M1, eM1, h⟩ := v_ltM h
      have fM1 : v_fr [127, 133, 136, 137, 138, 139] [] M M1 := by rw [eM1]; exact v_frw (by simp) fM
      obtain ⟨hb, h⟩ := v_ckS h
      obtain ⟨M2, eM2, h⟩ := v_ltM h
      have fM2 : v_fr [127, 133, 136, 137, 138, 139] [] M M2 := by rw [eM2]; exact v_frw (by simp) fM1
      exact v_frT fM2 (fw_X12_finds_L42 h)
    · obtain ⟨hb, h⟩ := v_ckS h
      obtain ⟨M3, eM3, h⟩ := v_ltM h
      have fM3 : v_fr [127, 133, 136, 137, 138, 139] [] M M3 := by rw [eM3]; exact v_frw (by simp) fM
      exact v_frT fM3 (ih _ _ _ _ h)
theorem fw_X12_finds_L2 {N n : Nat} {x1 : Int32} {x2 : Int32} {x3 : Int32} {M : v_M} {out : Int32 × v_M} (h : f_X12_finds_L2 N n x1 x2 x3 M = some out) : v_fr [127, 133, 136, 137, 138, 139] [] M out.2 := fv_X12_finds_L2 n x1 x2 x3 M h
theorem fr_X12_finds {N : Nat} {x1 : Int32} {x2 : Int32} {M : v_M} {out : Int32 × v_M} (h : f_X12_finds N x1 x2 M = some out) : v_fr [127, 133, 136, 137, 138, 139] [] M out.2 := by
  have fM : v_fr [127, 133, 136, 137, 138, 139] [] M M := v_frR
  unfold f_X12_finds at h
  exact v_frT fM (fw_X12_finds_L2 h)
theorem fw_X12_canBe_L139 {N : Nat} {x1 : Int32} {x3 : Int32} {x5 : Int32} {t0 : Int32} {M : v_M} {out : Int32 × v_M} {k94 : Int32 → Int32 → Int32 → Int32 → v_M → Option (Int32 × v_M)} (hk94 : ∀ (x1 : Int32) (x3 : Int32) (x4 : Int32) (x5 : Int32) (M : v_M), k94 x1 x3 x4 x5 M = some out → v_fr [127, 133, 136, 137, 138, 139] [] M out.2) (h : f_X12_canBe_L139 N k94 x1 x3 x5 t0 M = some out) : v_fr [127, 133, 136, 137, 138, 139] [] M out.2 := by
  have fM : v_fr [127, 133, 136, 137, 138, 139] [] M M := v_frR
  unfold f_X12_canBe_L139 at h
  exact v_frT fM (hk94 _ _ _ _ _ h)
theorem fw_X12_canBe_L134 {N : Nat} {x1 : Int32} {x3 : Int32} {x5 : Int32} {M : v_M} {out : Int32 × v_M} {k94 : Int32 → Int32 → Int32 → Int32 → v_M → Option (Int32 × v_M)} (hk94 : ∀ (x1 : Int32) (x3 : Int32) (x4 : Int32) (x5 : Int32) (M : v_M), k94 x1 x3 x4 x5 M = some out → v_fr [127, 133, 136, 137, 138, 139] [] M out.2) (h : f_X12_canBe_L134 N k94 x1 x3 x5 M = some out) : v_fr [127, 133, 136, 137, 138, 139] [] M out.2 := by
  have fM : v_fr [127, 133, 136, 137, 138, 139] [] M M := v_frR
  unfold f_X12_canBe_L134 at h
  exact v_frT fM (fw_X12_canBe_L139 hk94 h)
theorem fv_X12_canBe_L94 {N : Nat} {out : Int32 × v_M} (n : Nat) : ∀ (x1 : Int32) (x3 : Int32) (x4 : Int32) (x5 : Int32) (M : v_M), f_X12_canBe_L94 N n x1 x3 x4 x5 M = some out → v_fr [127, 133, 136, 137, 138, 139] [] M out.2 := by
  induction n with
  | zero => intro x1 x3 x4 x5 M h; rw [f_X12_canBe_L94] at h; cases h
  | succ n ih =>
    intro x1 x3 x4 x5 M h
    have fM : v_fr [127, 133, 136, 137, 138, 139] [] M M := v_frR
    rw [f_X12_canBe_L94] at h
    rcases v_iteS h with ⟨c, h⟩ | ⟨c, h⟩
    · obtain ⟨hb, h⟩ := v_ckS h
      have h := Option.some.inj h
      subst h
      exact fM
    · rcases v_iteS h with ⟨c, h⟩ | ⟨c, h⟩
      · obtain ⟨hb, h⟩ := v_ckS h
        have h := Option.some.inj h
        subst h
        exact fM
      · obtain ⟨hb, h⟩ := v_ckS h
        rcases v_iteS h with ⟨c, h⟩ | ⟨c, h⟩
        · exact v_frT fM (fw_X12_canBe_L134 ih h)
        · rcases v_iteS h with ⟨c, h⟩ | ⟨c, h⟩
          · exact v_frT fM (fw_X12_canBe_L134 ih h)
          · obtain ⟨z1, hz1, h⟩ := v_bdS h
            have fz1 : v_fr [127, 133, 136, 137, 138, 139] [] M z1.2 := v_frt (by simp) (by simp) fM (fr_X12_finds hz1)
            rcases v_iteS h with ⟨c, h⟩ | ⟨c, h⟩
            · exact v_frT fz1 (fw_X12_canBe_L139 ih h)
            · exact v_frT fz1 (fw_X12_canBe_L134 ih h)
theorem fw_X12_canBe_L94 {N n : Nat} {x1 : Int32} {x3 : Int32} {x4 : Int32} {x5 : Int32} {M : v_M} {out : Int32 × v_M} (h : f_X12_canBe_L94 N n x1 x3 x4 x5 M = some out) : v_fr [127, 133, 136, 137, 138, 139] [] M out.2 := fv_X12_canBe_L94 n x1 x3 x4 x5 M h
theorem fw_X12_canBe_L88 {N : Nat} {x1 : Int32} {x3 : Int32} {M : v_M} {out : Int32 × v_M} (h : f_X12_canBe_L88 N x1 x3 M = some out) : v_fr [127, 133, 136, 137, 138, 139] [] M out.2 := by
  have fM : v_fr [127, 133, 136, 137, 138, 139] [] M M := v_frR
  unfold f_X12_canBe_L88 at h
  exact v_frT fM (fw_X12_canBe_L94 h)
theorem fw_X12_canBe_L87 {N : Nat} {x1 : Int32} {t0 : Int32} {M : v_M} {out : Int32 × v_M} (h : f_X12_canBe_L87 N x1 t0 M = some out) : v_fr [127, 133, 136, 137, 138, 139] [] M out.2 := by
  have fM : v_fr [127, 133, 136, 137, 138, 139] [] M M := v_frR
  unfold f_X12_canBe_L87 at h
  exact v_frT fM (fw_X12_canBe_L88 h)
theorem fv_X12_canBe_L25 {N : Nat} {out : Int32 × v_M} (n : Nat) : ∀ (x1 : Int32) (x2 : Int32) (x3 : Int32) (M : v_M), f_X12_canBe_L25 N n x1 x2 x3 M = some out → v_fr [127, 133, 136, 137, 138, 139] [] M out.2 := by
  induction n with
  | zero => intro x1 x2 x3 M h; rw [f_X12_canBe_L25] at h; cases h
  | succ n ih =>
    intro x1 x2 x3 M h
    have fM : v_fr [127, 133, 136, 137, 138, 139] [] M M := v_frR
    rw [f_X12_canBe_L25] at h
    rcases v_iteS h with ⟨c, h⟩ | ⟨c, h⟩
    · rcases v_iteS h with ⟨c, h⟩ | ⟨c, h⟩
      · exact v_frT fM (fw_X12_canBe_L88 h)
      · obtain ⟨hb, h⟩ := v_ckS h
        obtain ⟨hb, h⟩ := v_ckS h
        obtain ⟨M1, eM1, h⟩ := v_ltM h
        have fM1 : v_fr [127, 133, 136, 137, 138, 139] [] M M1 := by rw [eM1]; exact v_frw (by simp) fM
        obtain ⟨z2, hz2, h⟩ := v_bdS h
        have fz2 : v_fr [127, 133, 136, 137, 138, 139] [] M z2.2 := v_frt (by simp) (by simp) fM1 (fr_X12_needOf hz2)
        obtain ⟨z3, hz3, h⟩ := v_bdS h
        have fz3 : v_fr [127, 133, 136, 137, 138, 139] [] M z3.2 := v_frt (by simp) (by simp) fz2 (fr_X12_fits hz3)
        rcases v_iteS h with ⟨c, h⟩ | ⟨c, h⟩
        · exact v_frT fz3 (fw_X12_canBe_L87 h)
        · obtain ⟨z4, hz4, h⟩ := v_bdS h
          have fz4 : v_fr [127, 133, 136, 137, 138, 139] [] M z4.2 := v_frt (by simp) (by simp) fz3 (fr_X12_needOf hz4)
          exact v_frT fz4 (fw_X12_canBe_L87 h)
    · obtain ⟨hb, h⟩ := v_ckS h
      obtain ⟨M5, eM5, h⟩ := v_ltM h
      have fM5 : v_fr [127, 133, 136, 137, 138, 139] [] M M5 := by rw [eM5]; exact v_frw (by simp) fM
      exact v_frT fM5 (ih _ _ _ _ h)
theorem fw_X12_canBe_L25 {N n : Nat} {x1 : Int32} {x2 : Int32} {x3 : Int32} {M : v_M} {out : Int32 × v_M} (h : f_X12_canBe_L25 N n x1 x2 x3 M = some out) : v_fr [127, 133, 136, 137, 138, 139] [] M out.2 := fv_X12_canBe_L25 n x1 x2 x3 M h
theorem fv_X12_canBe_L2 {N : Nat} {out : Int32 × v_M} (n : Nat) : ∀ (x1 : Int32) (x2 : Int32) (x3 : Int32) (M : v_M), f_X12_canBe_L2 N n x1 x2 x3 M = some out → v_fr [127, 133, 136, 137, 138, 139] [] M out.2 := by
  induction n with
  | zero => intro x1 x2 x3 M h; rw [f_X12_canBe_L2] at h; cases h
  | succ n ih =>
    intro x1 x2 x3 M h
    have fM : v_fr [127, 133, 136, 137, 138, 139] [] M M := v_frR
    rw [f_X12_canBe_L2] at h
    rcases v_iteS h with ⟨c, h⟩ | ⟨c, h⟩
    · exact v_frT fM (fw_X12_canBe_L25 h)
    · obtain ⟨hb, h⟩ := v_ckS h
      obtain ⟨M1, eM1, h⟩ := v_ltM h
      have fM1 : v_fr [127, 133, 136, 137, 138, 139] [] M M1 := by rw [eM1]; exact v_frw (by simp) fM
      exact v_frT fM1 (ih _ _ _ _ h)
theorem fw_X12_canBe_L2 {N n : Nat} {x1 : Int32} {x2 : Int32} {x3 : Int32} {M : v_M} {out : Int32 × v_M} (h : f_X12_canBe_L2 N n x1 x2 x3 M = some out) : v_fr [127, 133, 136, 137, 138, 139] [] M out.2 := fv_X12_canBe_L2 n x1 x2 x3 M h
theorem fr_X12_canBe {N : Nat} {x1 : Int32} {x2 : Int32} {M : v_M} {out : Int32 × v_M} (h : f_X12_canBe N x1 x2 M = some out) : v_fr [127, 133, 136, 137, 138, 139] [] M out.2 := by
  have fM : v_fr [127, 133, 136, 137, 138, 139] [] M M := v_frR
  unfold f_X12_canBe at h
  exact v_frT fM (fw_X12_canBe_L2 h)
theorem fw_X12_fewest_L88 {N : Nat} {x2 : Int32} {t0 : Int32} {t1 : Int32} {M : v_M} {out : Int32 × v_M} {k20 : Int32 → Int32 → v_M → Option (Int32 × v_M)} (hk20 : ∀ (x1 : Int32) (x2 : Int32) (M : v_M), k20 x1 x2 M = some out → v_fr [126, 127, 132, 133, 134, 135, 136, 137, 138, 139] [] M out.2) (h : f_X12_fewest_L88 N k20 x2 t0 t1 M = some out) : v_fr [126, 127, 132, 133, 134, 135, 136, 137, 138, 139] [] M out.2 := by
  have fM : v_fr [126, 127, 132, 133, 134, 135, 136, 137, 138, 139] [] M M := v_frR
  unfold f_X12_fewest_L88 at h
  obtain ⟨y1, ey1, h⟩ := v_ltM h
  exact v_frT fM (hk20 _ _ _ h)
theorem fw_X12_fewest_L69 {N : Nat} {x1 : Int32} {x2 : Int32} {x4 : Int32} {t0 : Int32} {t1 : Int32} {M : v_M} {out : Int32 × v_M} {k20 : Int32 → Int32 → v_M → Option (Int32 × v_M)} (hk20 : ∀ (x1 : Int32) (x2 : Int32) (M : v_M), k20 x1 x2 M = some out → v_fr [126, 127, 132, 133, 134, 135, 136, 137, 138, 139] [] M out.2) {k33 : Int32 → Int32 → Int32 → Int32 → v_M → Option (Int32 × v_M)} (hk33 : ∀ (x1 : Int32) (x2 : Int32) (x3 : Int32) (x4 : Int32) (M : v_M), k33 x1 x2 x3 x4 M = some out → v_fr [126, 127, 132, 133, 134, 135, 136, 137, 138, 139] [] M out.2) (h : f_X12_fewest_L69 N k20 k33 x1 x2 x4 t0 t1 M = some out) : v_fr [126, 127, 132, 133, 134, 135, 136, 137, 138, 139] [] M out.2 := by
  have fM : v_fr [126, 127, 132, 133, 134, 135, 136, 137, 138, 139] [] M M := v_frR
  unfold f_X12_fewest_L69 at h
  obtain ⟨y1, ey1, h⟩ := v_ltM h
  exact v_frT fM (hk33 _ _ _ _ _ h)
theorem fw_X12_fewest_L68 {N : Nat} {x1 : Int32} {x2 : Int32} {x4 : Int32} {t0 : Int32} {M : v_M} {out : Int32 × v_M} {k20 : Int32 → Int32 → v_M → Option (Int32 × v_M)} (hk20 : ∀ (x1 : Int32) (x2 : Int32) (M : v_M), k20 x1 x2 M = some out → v_fr [126, 127, 132, 133, 134, 135, 136, 137, 138, 139] [] M out.2) {k33 : Int32 → Int32 → Int32 → Int32 → v_M → Option (Int32 × v_M)} (hk33 : ∀ (x1 : Int32) (x2 : Int32) (x3 : Int32) (x4 : Int32) (M : v_M), k33 x1 x2 x3 x4 M = some out → v_fr [126, 127, 132, 133, 134, 135, 136, 137, 138, 139] [] M out.2) (h : f_X12_fewest_L68 N k20 k33 x1 x2 x4 t0 M = some out) : v_fr [126, 127, 132, 133, 134, 135, 136, 137, 138, 139] [] M out.2 := by
  have fM : v_fr [126, 127, 132, 133, 134, 135, 136, 137, 138, 139] [] M M := v_frR
  unfold f_X12_fewest_L68 at h
  exact v_frT fM (fw_X12_fewest_L69 hk20 hk33 h)
theorem fv_X12_fewest_L33 {N : Nat} {out : Int32 × v_M} {k20 : Int32 → Int32 → v_M → Option (Int32 × v_M)} (hk20 : ∀ (x1 : Int32) (x2 : Int32) (M : v_M), k20 x1 x2 M = some out → v_fr [126, 127, 132, 133, 134, 135, 136, 137, 138, 139] [] M out.2) (n : Nat) : ∀ (x1 : Int32) (x2 : Int32) (x3 : Int32) (x4 : Int32) (M : v_M), f_X12_fewest_L33 N k20 n x1 x2 x3 x4 M = some out → v_fr [126, 127, 132, 133, 134, 135, 136, 137, 138, 139] [] M out.2 := by
  induction n with
  | zero => intro x1 x2 x3 x4 M h; rw [f_X12_fewest_L33] at h; cases h
  | succ n ih =>
    intro x1 x2 x3 x4 M h
    have fM : v_fr [126, 127, 132, 133, 134, 135, 136, 137, 138, 139] [] M M := v_frR
    rw [f_X12_fewest_L33] at h
    rcases v_iteS h with ⟨c, h⟩ | ⟨c, h⟩
    · rcases v_iteS h with ⟨c, h⟩ | ⟨c, h⟩
      · exact v_frT fM (fw_X12_fewest_L88 hk20 h)
      · exact v_frT fM (fw_X12_fewest_L88 hk20 h)
    · obtain ⟨hb, h⟩ := v_ckS h
      rcases v_iteS h with ⟨c, h⟩ | ⟨c, h⟩
      · obtain ⟨hb, h⟩ := v_ckS h
        rcases v_iteS h with ⟨c, h⟩ | ⟨c, h⟩
        · exact v_frT fM (fw_X12_fewest_L68 hk20 ih h)
        · exact v_frT fM (fw_X12_fewest_L69 hk20 ih h)
      · exact v_frT fM (fw_X12_fewest_L68 hk20 ih h)
theorem fw_X12_fewest_L33 {N n : Nat} {x1 : Int32} {x2 : Int32} {x3 : Int32} {x4 : Int32} {M : v_M} {out : Int32 × v_M} {k20 : Int32 → Int32 → v_M → Option (Int32 × v_M)} (hk20 : ∀ (x1 : Int32) (x2 : Int32) (M : v_M), k20 x1 x2 M = some out → v_fr [126, 127, 132, 133, 134, 135, 136, 137, 138, 139] [] M out.2) (h : f_X12_fewest_L33 N k20 n x1 x2 x3 x4 M = some out) : v_fr [126, 127, 132, 133, 134, 135, 136, 137, 138, 139] [] M out.2 := fv_X12_fewest_L33 hk20 n x1 x2 x3 x4 M h
theorem fv_X12_fewest_L20 {N : Nat} {out : Int32 × v_M} (n : Nat) : ∀ (x1 : Int32) (x2 : Int32) (M : v_M), f_X12_fewest_L20 N n x1 x2 M = some out → v_fr [126, 127, 132, 133, 134, 135, 136, 137, 138, 139] [] M out.2 := by
  induction n with
  | zero => intro x1 x2 M h; rw [f_X12_fewest_L20] at h; cases h
  | succ n ih =>
    intro x1 x2 M h
    have fM : v_fr [126, 127, 132, 133, 134, 135, 136, 137, 138, 139] [] M M := v_frR
    rw [f_X12_fewest_L20] at h
    rcases v_iteS h with ⟨c, h⟩ | ⟨c, h⟩
    · have h := Option.some.inj h
      subst h
      exact fM
    · exact v_frT fM (fw_X12_fewest_L33 ih h)
theorem fw_X12_fewest_L20 {N n : Nat} {x1 : Int32} {x2 : Int32} {M : v_M} {out : Int32 × v_M} (h : f_X12_fewest_L20 N n x1 x2 M = some out) : v_fr [126, 127, 132, 133, 134, 135, 136, 137, 138, 139] [] M out.2 := fv_X12_fewest_L20 n x1 x2 M h
theorem fr_X12_fewest {N : Nat} {M : v_M} {out : Int32 × v_M} (h : f_X12_fewest N M = some out) : v_fr [126, 127, 132, 133, 134, 135, 136, 137, 138, 139] [] M out.2 := by
  have fM : v_fr [126, 127, 132, 133, 134, 135, 136, 137, 138, 139] [] M M := v_frR
  unfold f_X12_fewest at h
  obtain ⟨z1, hz1, h⟩ := v_bdS h
  have fz1 : v_fr [126, 127, 132, 133, 134, 135, 136, 137, 138, 139] [] M z1.2 := v_frt (by simp) (by simp) fM (fr_X12_looks hz1)
  obtain ⟨z2, hz2, h⟩ := v_bdS h
  have fz2 : v_fr [126, 127, 132, 133, 134, 135, 136, 137, 138, 139] [] M z2.2 := v_frt (by simp) (by simp) fz1 (fr_X12_canBe hz2)
  rcases v_iteS h with ⟨c, h⟩ | ⟨c, h⟩
  · have h := Option.some.inj h
    subst h
    exact fz2
  · exact v_frT fz2 (fw_X12_fewest_L20 h)
theorem fr_X12_sure {N : Nat} {x1 : Int32} {M : v_M} {out : Int32 × v_M} (h : f_X12_sure N x1 M = some out) : v_fr [126, 127, 132, 133, 134, 135, 136, 137, 138, 139] [] M out.2 := by
  have fM : v_fr [126, 127, 132, 133, 134, 135, 136, 137, 138, 139] [] M M := v_frR
  unfold f_X12_sure at h
  obtain ⟨z1, hz1, h⟩ := v_bdS h
  have fz1 : v_fr [126, 127, 132, 133, 134, 135, 136, 137, 138, 139] [] M z1.2 := v_frt (by simp) (by simp) fM (fr_X12_in hz1)
  rcases v_iteS h with ⟨c, h⟩ | ⟨c, h⟩
  · have h := Option.some.inj h
    subst h
    exact fz1
  · obtain ⟨z2, hz2, h⟩ := v_bdS h
    have fz2 : v_fr [126, 127, 132, 133, 134, 135, 136, 137, 138, 139] [] M z2.2 := v_frt (by simp) (by simp) fz1 (fr_X12_looks hz2)
    obtain ⟨z3, hz3, h⟩ := v_bdS h
    have fz3 : v_fr [126, 127, 132, 133, 134, 135, 136, 137, 138, 139] [] M z3.2 := v_frt (by simp) (by simp) fz2 (fr_X12_canBe hz3)
    rcases v_iteS h with ⟨c, h⟩ | ⟨c, h⟩
    · have h := Option.some.inj h
      subst h
      exact fz3
    · obtain ⟨z4, hz4, h⟩ := v_bdS h
      have fz4 : v_fr [126, 127, 132, 133, 134, 135, 136, 137, 138, 139] [] M z4.2 := v_frt (by simp) (by simp) fz3 (fr_X12_canBe hz4)
      rcases v_iteS h with ⟨c, h⟩ | ⟨c, h⟩
      · have h := Option.some.inj h
        subst h
        exact fz4
      · obtain ⟨hb, h⟩ := v_ckS h
        rcases v_iteS h with ⟨c, h⟩ | ⟨c, h⟩
        · have h := Option.some.inj h
          subst h
          exact fz4
        · obtain ⟨z5, hz5, h⟩ := v_bdS h
          have fz5 : v_fr [126, 127, 132, 133, 134, 135, 136, 137, 138, 139] [] M z5.2 := v_frt (by simp) (by simp) fz4 (fr_X12_canBe hz5)
          rcases v_iteS h with ⟨c, h⟩ | ⟨c, h⟩
          · have h := Option.some.inj h
            subst h
            exact fz5
          · have h := Option.some.inj h
            subst h
            exact fz5
theorem fv_X12_back_L70 {N : Nat} {out : Int32 × v_M} {k55 : Int32 → Int32 → v_M → Option (Int32 × v_M)} (hk55 : ∀ (x1 : Int32) (x2 : Int32) (M : v_M), k55 x1 x2 M = some out → v_fr [88, 89, 90, 91, 92, 93, 122, 123, 124, 125, 128, 129, 130, 131, 140, 145] [(79, 1), (79, 3), (79, 60), (79, 61), (79, 91), (79, 92)] M out.2) (n : Nat) : ∀ (x1 : Int32) (x2 : Int32) (x3 : Int32) (M : v_M), f_X12_back_L70 N k55 n x1 x2 x3 M = some out → v_fr [88, 89, 90, 91, 92, 93, 122, 123, 124, 125, 128, 129, 130, 131, 140, 145] [(79, 1), (79, 3), (79, 60), (79, 61), (79, 91), (79, 92)] M out.2 := by
  induction n with
  | zero => intro x1 x2 x3 M h; rw [f_X12_back_L70] at h; cases h
  | succ n ih =>
    intro x1 x2 x3 M h
    have fM : v_fr [88, 89, 90, 91, 92, 93, 122, 123, 124, 125, 128, 129, 130, 131, 140, 145] [(79, 1), (79, 3), (79, 60), (79, 61), (79, 91), (79, 92)] M M := v_frR
    rw [f_X12_back_L70] at h
    rcases v_iteS h with ⟨c, h⟩ | ⟨c, h⟩
    · exact v_frT fM (hk55 _ _ _ h)
    · obtain ⟨z1, hz1, h⟩ := v_bdS h
      have fz1 : v_fr [88, 89, 90, 91, 92, 93, 122, 123, 124, 125, 128, 129, 130, 131, 140, 145] [(79, 1), (79, 3), (79, 60), (79, 61), (79, 91), (79, 92)] M z1.2 := v_frt (by simp) (by simp) fM (fr_X12_clears hz1)
      exact v_frT fz1 (ih _ _ _ _ h)
theorem fw_X12_back_L70 {N n : Nat} {x1 : Int32} {x2 : Int32} {x3 : Int32} {M : v_M} {out : Int32 × v_M} {k55 : Int32 → Int32 → v_M → Option (Int32 × v_M)} (hk55 : ∀ (x1 : Int32) (x2 : Int32) (M : v_M), k55 x1 x2 M = some out → v_fr [88, 89, 90, 91, 92, 93, 122, 123, 124, 125, 128, 129, 130, 131, 140, 145] [(79, 1), (79, 3), (79, 60), (79, 61), (79, 91), (79, 92)] M out.2) (h : f_X12_back_L70 N k55 n x1 x2 x3 M = some out) : v_fr [88, 89, 90, 91, 92, 93, 122, 123, 124, 125, 128, 129, 130, 131, 140, 145] [(79, 1), (79, 3), (79, 60), (79, 61), (79, 91), (79, 92)] M out.2 := fv_X12_back_L70 hk55 n x1 x2 x3 M h
theorem fv_X12_back_L55 {N : Nat} {out : Int32 × v_M} (n : Nat) : ∀ (x1 : Int32) (x2 : Int32) (M : v_M), f_X12_back_L55 N n x1 x2 M = some out → v_fr [88, 89, 90, 91, 92, 93, 122, 123, 124, 125, 128, 129, 130, 131, 140, 145] [(79, 1), (79, 3), (79, 60), (79, 61), (79, 91), (79, 92)] M out.2 := by
  induction n with
  | zero => intro x1 x2 M h; rw [f_X12_back_L55] at h; cases h
  | succ n ih =>
    intro x1 x2 M h
    have fM : v_fr [88, 89, 90, 91, 92, 93, 122, 123, 124, 125, 128, 129, 130, 131, 140, 145] [(79, 1), (79, 3), (79, 60), (79, 61), (79, 91), (79, 92)] M M := v_frR
    rw [f_X12_back_L55] at h
    rcases v_iteS h with ⟨c, h⟩ | ⟨c, h⟩
    · obtain ⟨z1, hz1, h⟩ := v_bdS h
      have fz1 : v_fr [88, 89, 90, 91, 92, 93, 122, 123, 124, 125, 128, 129, 130, 131, 140, 145] [(79, 1), (79, 3), (79, 60), (79, 61), (79, 91), (79, 92)] M z1.2 := v_frt (by simp) (by simp) fM (fr_X12_forgets hz1)
      have h := Option.some.inj h
      subst h
      exact fz1
    · obtain ⟨hb, h⟩ := v_ckS h
      obtain ⟨y2, ey2, h⟩ := v_ltM h
      exact v_frT fM (fw_X12_back_L70 ih h)
theorem fw_X12_back_L55 {N n : Nat} {x1 : Int32} {x2 : Int32} {M : v_M} {out : Int32 × v_M} (h : f_X12_back_L55 N n x1 x2 M = some out) : v_fr [88, 89, 90, 91, 92, 93, 122, 123, 124, 125, 128, 129, 130, 131, 140, 145] [(79, 1), (79, 3), (79, 60), (79, 61), (79, 91), (79, 92)] M out.2 := fv_X12_back_L55 n x1 x2 M h
theorem fr_X12_back {N : Nat} {x1 : Int32} {M : v_M} {out : Int32 × v_M} (h : f_X12_back N x1 M = some out) : v_fr [88, 89, 90, 91, 92, 93, 122, 123, 124, 125, 128, 129, 130, 131, 140, 145] [(79, 1), (79, 3), (79, 60), (79, 61), (79, 91), (79, 92)] M out.2 := by
  have fM : v_fr [88, 89, 90, 91, 92, 93, 122, 123, 124, 125, 128, 129, 130, 131, 140, 145] [(79, 1), (79, 3), (79, 60), (79, 61), (79, 91), (79, 92)] M M := v_frR
  unfold f_X12_back at h
  obtain ⟨z1, hz1, h⟩ := v_bdS h
  have fz1 : v_fr [88, 89, 90, 91, 92, 93, 122, 123, 124, 125, 128, 129, 130, 131, 140, 145] [(79, 1), (79, 3), (79, 60), (79, 61), (79, 91), (79, 92)] M z1.2 := v_frt (by simp) (by simp) fM (fr_X12_in hz1)
  rcases v_iteS h with ⟨c, h⟩ | ⟨c, h⟩
  · have h := Option.some.inj h
    subst h
    exact fz1
  · obtain ⟨hb, h⟩ := v_ckS h
    rcases v_iteS h with ⟨c, h⟩ | ⟨c, h⟩
    · have h := Option.some.inj h
      subst h
      exact fz1
    · obtain ⟨hb, h⟩ := v_ckS h
      obtain ⟨M2, eM2, h⟩ := v_ltM h
      have fM2 : v_fr [88, 89, 90, 91, 92, 93, 122, 123, 124, 125, 128, 129, 130, 131, 140, 145] [(79, 1), (79, 3), (79, 60), (79, 61), (79, 91), (79, 92)] M M2 := by rw [eM2]; exact v_fro (by simp) fz1
      obtain ⟨z3, hz3, h⟩ := v_bdS h
      have fz3 : v_fr [88, 89, 90, 91, 92, 93, 122, 123, 124, 125, 128, 129, 130, 131, 140, 145] [(79, 1), (79, 3), (79, 60), (79, 61), (79, 91), (79, 92)] M z3.2 := v_frt (by simp) (by simp) fM2 (fr_X12_carries hz3)
      obtain ⟨hb, h⟩ := v_ckS h
      obtain ⟨M4, eM4, h⟩ := v_ltM h
      have fM4 : v_fr [88, 89, 90, 91, 92, 93, 122, 123, 124, 125, 128, 129, 130, 131, 140, 145] [(79, 1), (79, 3), (79, 60), (79, 61), (79, 91), (79, 92)] M M4 := by rw [eM4]; exact v_fro (by simp) fz3
      obtain ⟨hb, h⟩ := v_ckS h
      obtain ⟨M5, eM5, h⟩ := v_ltM h
      have fM5 : v_fr [88, 89, 90, 91, 92, 93, 122, 123, 124, 125, 128, 129, 130, 131, 140, 145] [(79, 1), (79, 3), (79, 60), (79, 61), (79, 91), (79, 92)] M M5 := by rw [eM5]; exact v_fro (by simp) fM4
      exact v_frT fM5 (fw_X12_back_L55 h)
theorem fr_X0_know {N : Nat} {q1 : Nat} {x2 : Int32} {M : v_M} {out : Int32 × v_M} (h : f_X0_know N q1 x2 M = some out) : v_fr [50] [] M out.2 := by
  have fM : v_fr [50] [] M M := v_frR
  unfold f_X0_know at h
  obtain ⟨z1, hz1, h⟩ := v_bdS h
  have fz1 : v_fr [50] [] M z1.2 := v_frt (by simp) (by simp) fM (fr_X11_within hz1)
  rcases v_iteS h with ⟨c, h⟩ | ⟨c, h⟩
  · have h := Option.some.inj h
    subst h
    exact fz1
  · obtain ⟨hb, h⟩ := v_ckS h
    obtain ⟨hb, h⟩ := v_ckS h
    obtain ⟨M2, eM2, h⟩ := v_ltM h
    have fM2 : v_fr [50] [] M M2 := by rw [eM2]; exact v_frw (by simp) fz1
    obtain ⟨z3, hz3, h⟩ := v_bdS h
    have fz3 : v_fr [50] [] M z3.2 := v_frt (by simp) (by simp) fM2 (fr_X4_sumOf hz3)
    obtain ⟨hb, h⟩ := v_ckS h
    obtain ⟨M4, eM4, h⟩ := v_ltM h
    have fM4 : v_fr [50] [] M M4 := by rw [eM4]; exact v_frw (by simp) fz3
    obtain ⟨z5, hz5, h⟩ := v_bdS h
    have fz5 : v_fr [50] [] M z5.2 := v_frt (by simp) (by simp) fM4 (fr_X4_sumOf hz5)
    obtain ⟨hb, h⟩ := v_ckS h
    obtain ⟨M6, eM6, h⟩ := v_ltM h
    have fM6 : v_fr [50] [] M M6 := by rw [eM6]; exact v_frw (by simp) fz5
    have h := Option.some.inj h
    subst h
    exact fM6
theorem fw_X0_valueOf_L159 {N : Nat} {q1 : Nat} {M : v_M} {out : Int32 × v_M} (h : f_X0_valueOf_L159 N q1 M = some out) : v_fr [51] [] M out.2 := by
  have fM : v_fr [51] [] M M := v_frR
  unfold f_X0_valueOf_L159 at h
  obtain ⟨hb, h⟩ := v_ckS h
  have h := Option.some.inj h
  subst h
  exact fM
theorem fw_X0_valueOf_L153 {N : Nat} {q1 : Nat} {x3 : Int32} {x4 : Int32} {x5 : Int32} {M : v_M} {out : Int32 × v_M} {k10 : Int32 → Int32 → Int32 → v_M → Option (Int32 × v_M)} (hk10 : ∀ (x3 : Int32) (x4 : Int32) (x5 : Int32) (M : v_M), k10 x3 x4 x5 M = some out → v_fr [51] [] M out.2) (h : f_X0_valueOf_L153 N q1 k10 x3 x4 x5 M = some out) : v_fr [51] [] M out.2 := by
  have fM : v_fr [51] [] M M := v_frR
  unfold f_X0_valueOf_L153 at h
  exact v_frT fM (hk10 _ _ _ _ h)
theorem fw_X0_valueOf_L72 {N : Nat} {q1 : Nat} {x3 : Int32} {x4 : Int32} {x5 : Int32} {t0 : Int32} {t1 : Int32} {M : v_M} {out : Int32 × v_M} {k10 : Int32 → Int32 → Int32 → v_M → Option (Int32 × v_M)} (hk10 : ∀ (x3 : Int32) (x4 : Int32) (x5 : Int32) (M : v_M), k10 x3 x4 x5 M = some out → v_fr [51] [] M out.2) (h : f_X0_valueOf_L72 N q1 k10 x3 x4 x5 t0 t1 M = some out) : v_fr [51] [] M out.2 := by
  have fM : v_fr [51] [] M M := v_frR
  unfold f_X0_valueOf_L72 at h
  obtain ⟨hb, h⟩ := v_ckS h
  obtain ⟨M1, eM1, h⟩ := v_ltM h
  have fM1 : v_fr [51] [] M M1 := by rw [eM1]; exact v_frw (by simp) fM
  exact v_frT fM1 (fw_X0_valueOf_L153 hk10 h)
theorem fv_X0_valueOf_L10 {N : Nat} {q1 : Nat} {out : Int32 × v_M} (n : Nat) : ∀ (x3 : Int32) (x4 : Int32) (x5 : Int32) (M : v_M), f_X0_valueOf_L10 N q1 n x3 x4 x5 M = some out → v_fr [51] [] M out.2 := by
  induction n with
  | zero => intro x3 x4 x5 M h; rw [f_X0_valueOf_L10] at h; cases h
  | succ n ih =>
    intro x3 x4 x5 M h
    have fM : v_fr [51] [] M M := v_frR
    rw [f_X0_valueOf_L10] at h
    rcases v_iteS h with ⟨c, h⟩ | ⟨c, h⟩
    · exact v_frT fM (fw_X0_valueOf_L159 h)
    · rcases v_iteS h with ⟨c, h⟩ | ⟨c, h⟩
      · exact v_frT fM (fw_X0_valueOf_L159 h)
      · obtain ⟨hb, h⟩ := v_ckS h
        obtain ⟨y1, ey1, h⟩ := v_ltM h
        rcases v_iteS h with ⟨c, h⟩ | ⟨c, h⟩
        · rcases v_iteS h with ⟨c, h⟩ | ⟨c, h⟩
          · rcases v_iteS h with ⟨c, h⟩ | ⟨c, h⟩
            · exact v_frT fM (fw_X0_valueOf_L153 ih h)
            · obtain ⟨hb, h⟩ := v_ckS h
              obtain ⟨hb, h⟩ := v_ckS h
              obtain ⟨M4, eM4, h⟩ := v_ltM h
              have fM4 : v_fr [51] [] M M4 := by rw [eM4]; exact v_frw (by simp) fM
              exact v_frT fM4 (fw_X0_valueOf_L153 ih h)
          · rcases v_iteS h with ⟨c, h⟩ | ⟨c, h⟩
            · exact v_frT fM (fw_X0_valueOf_L153 ih h)
            · obtain ⟨hb, h⟩ := v_ckS h
              obtain ⟨hb, h⟩ := v_ckS h
              obtain ⟨z2, hz2, h⟩ := v_bdS h
              have fz2 : v_fr [51] [] M z2.2 := v_frt (by simp) (by simp) fM (fr_X0_joined hz2)
              obtain ⟨hb, h⟩ := v_ckS h
              obtain ⟨M3, eM3, h⟩ := v_ltM h
              have fM3 : v_fr [51] [] M M3 := by rw [eM3]; exact v_frw (by simp) fz2
              exact v_frT fM3 (fw_X0_valueOf_L153 ih h)
        · rcases v_iteS h with ⟨c, h⟩ | ⟨c, h⟩
          · exact v_frT fM (fw_X0_valueOf_L153 ih h)
          · rcases v_iteS h with ⟨c, h⟩ | ⟨c, h⟩
            · obtain ⟨hb, h⟩ := v_ckS h
              exact v_frT fM (fw_X0_valueOf_L72 ih h)
            · exact v_frT fM (fw_X0_valueOf_L72 ih h)
theorem fw_X0_valueOf_L10 {N n : Nat} {q1 : Nat} {x3 : Int32} {x4 : Int32} {x5 : Int32} {M : v_M} {out : Int32 × v_M} (h : f_X0_valueOf_L10 N q1 n x3 x4 x5 M = some out) : v_fr [51] [] M out.2 := fv_X0_valueOf_L10 n x3 x4 x5 M h
theorem fr_X0_valueOf {N : Nat} {q1 : Nat} {x2 : Int32} {x3 : Int32} {M : v_M} {out : Int32 × v_M} (h : f_X0_valueOf N q1 x2 x3 M = some out) : v_fr [51] [] M out.2 := by
  have fM : v_fr [51] [] M M := v_frR
  unfold f_X0_valueOf at h
  obtain ⟨y1, ey1, h⟩ := v_ltM h
  exact v_frT fM (fw_X0_valueOf_L10 h)
theorem fw_X2_press_L164 {N : Nat} {x5 : Int32} {M : v_M} {out : Int32 × v_M} {k31 : Int32 → v_M → Option (Int32 × v_M)} (hk31 : ∀ (x5 : Int32) (M : v_M), k31 x5 M = some out → v_fr [25, 26, 27] [] M out.2) (h : f_X2_press_L164 N k31 x5 M = some out) : v_fr [25, 26, 27] [] M out.2 := by
  have fM : v_fr [25, 26, 27] [] M M := v_frR
  unfold f_X2_press_L164 at h
  exact v_frT fM (hk31 _ _ h)
theorem fv_X2_press_L31 {N : Nat} {out : Int32 × v_M} (n : Nat) : ∀ (x5 : Int32) (M : v_M), f_X2_press_L31 N n x5 M = some out → v_fr [25, 26, 27] [] M out.2 := by
  induction n with
  | zero => intro x5 M h; rw [f_X2_press_L31] at h; cases h
  | succ n ih =>
    intro x5 M h
    have fM : v_fr [25, 26, 27] [] M M := v_frR
    rw [f_X2_press_L31] at h
    rcases v_iteS h with ⟨c, h⟩ | ⟨c, h⟩
    · have h := Option.some.inj h
      subst h
      exact fM
    · obtain ⟨hb, h⟩ := v_ckS h
      obtain ⟨y1, ey1, h⟩ := v_ltM h
      obtain ⟨hb, h⟩ := v_ckS h
      obtain ⟨y2, ey2, h⟩ := v_ltM h
      rcases v_iteS h with ⟨c, h⟩ | ⟨c, h⟩
      · exact v_frT fM (fw_X2_press_L164 ih h)
      · rcases v_iteS h with ⟨c, h⟩ | ⟨c, h⟩
        · exact v_frT fM (fw_X2_press_L164 ih h)
        · rcases v_iteS h with ⟨c, h⟩ | ⟨c, h⟩
          · obtain ⟨hb, h⟩ := v_ckS h
            obtain ⟨hb, h⟩ := v_ckS h
            obtain ⟨hb, h⟩ := v_ckS h
            obtain ⟨y3, ey3, h⟩ := v_ltM h
            obtain ⟨hb, h⟩ := v_ckS h
            obtain ⟨hb, h⟩ := v_ckS h
            obtain ⟨hb, h⟩ := v_ckS h
            obtain ⟨M4, eM4, h⟩ := v_ltM h
            have fM4 : v_fr [25, 26, 27] [] M M4 := by rw [eM4]; exact v_frw (by simp) fM
            obtain ⟨hb, h⟩ := v_ckS h
            obtain ⟨hb, h⟩ := v_ckS h
            obtain ⟨hb, h⟩ := v_ckS h
            obtain ⟨hb, h⟩ := v_ckS h
            obtain ⟨M5, eM5, h⟩ := v_ltM h
            have fM5 : v_fr [25, 26, 27] [] M M5 := by rw [eM5]; exact v_frw (by simp) fM4
            exact v_frT fM5 (fw_X2_press_L164 ih h)
          · exact v_frT fM (fw_X2_press_L164 ih h)
theorem fw_X2_press_L31 {N n : Nat} {x5 : Int32} {M : v_M} {out : Int32 × v_M} (h : f_X2_press_L31 N n x5 M = some out) : v_fr [25, 26, 27] [] M out.2 := fv_X2_press_L31 n x5 M h
theorem fr_X2_press {N : Nat} {x2 : Int32} {x3 : Int32} {M : v_M} {out : Int32 × v_M} (h : f_X2_press N x2 x3 M = some out) : v_fr [25, 26, 27] [] M out.2 := by
  have fM : v_fr [25, 26, 27] [] M M := v_frR
  unfold f_X2_press at h
  obtain ⟨z1, hz1, h⟩ := v_bdS h
  have fz1 : v_fr [25, 26, 27] [] M z1.2 := v_frt (by simp) (by simp) fM (fr_X2_farthest hz1)
  obtain ⟨y2, ey2, h⟩ := v_ltM h
  obtain ⟨hb, h⟩ := v_ckS h
  obtain ⟨M3, eM3, h⟩ := v_ltM h
  have fM3 : v_fr [25, 26, 27] [] M M3 := by rw [eM3]; exact v_frw (by simp) fz1
  obtain ⟨hb, h⟩ := v_ckS h
  obtain ⟨M4, eM4, h⟩ := v_ltM h
  have fM4 : v_fr [25, 26, 27] [] M M4 := by rw [eM4]; exact v_frw (by simp) fM3
  exact v_frT fM4 (fw_X2_press_L31 h)
theorem fv_X2_heightItGoes_L9 {N : Nat} {out : Int32 × v_M} (n : Nat) : ∀ (x2 : Int32) (x3 : Int32) (x4 : Int32) (M : v_M), f_X2_heightItGoes_L9 N n x2 x3 x4 M = some out → v_fr [28] [] M out.2 := by
  induction n with
  | zero => intro x2 x3 x4 M h; rw [f_X2_heightItGoes_L9] at h; cases h
  | succ n ih =>
    intro x2 x3 x4 M h
    have fM : v_fr [28] [] M M := v_frR
    rw [f_X2_heightItGoes_L9] at h
    rcases v_iteS h with ⟨c, h⟩ | ⟨c, h⟩
    · have h := Option.some.inj h
      subst h
      exact fM
    · obtain ⟨z1, hz1, h⟩ := v_bdS h
      have fz1 : v_fr [28] [] M z1.2 := v_frt (by simp) (by simp) fM (fr_X2_holdAgainst hz1)
      obtain ⟨y2, ey2, h⟩ := v_ltM h
      rcases v_iteS h with ⟨c, h⟩ | ⟨c, h⟩
      · have h := Option.some.inj h
        subst h
        exact fz1
      · exact v_frT fz1 (ih _ _ _ _ h)
theorem fw_X2_heightItGoes_L9 {N n : Nat} {x2 : Int32} {x3 : Int32} {x4 : Int32} {M : v_M} {out : Int32 × v_M} (h : f_X2_heightItGoes_L9 N n x2 x3 x4 M = some out) : v_fr [28] [] M out.2 := fv_X2_heightItGoes_L9 n x2 x3 x4 M h
theorem fr_X2_heightItGoes {N : Nat} {x2 : Int32} {M : v_M} {out : Int32 × v_M} (h : f_X2_heightItGoes N x2 M = some out) : v_fr [28] [] M out.2 := by
  have fM : v_fr [28] [] M M := v_frR
  unfold f_X2_heightItGoes at h
  obtain ⟨z1, hz1, h⟩ := v_bdS h
  have fz1 : v_fr [28] [] M z1.2 := v_frt (by simp) (by simp) fM (fr_X2_gatherHooks hz1)
  obtain ⟨y2, ey2, h⟩ := v_ltM h
  exact v_frT fz1 (fw_X2_heightItGoes_L9 h)
theorem fr_X7_readMust {N : Nat} {qo : Nat} {x1 : Int32} {M : v_M} {out : Int32 × v_M} (h : f_X7_readMust N qo x1 M = some out) : v_fr [(qo + 2), (qo + 3)] [(35, 2), (35, 3), (35, 4), (35, 6)] M out.2 := by
  have fM : v_fr [(qo + 2), (qo + 3)] [(35, 2), (35, 3), (35, 4), (35, 6)] M M := v_frR
  unfold f_X7_readMust at h
  obtain ⟨z1, hz1, h⟩ := v_bdS h
  have fz1 : v_fr [(qo + 2), (qo + 3)] [(35, 2), (35, 3), (35, 4), (35, 6)] M z1.2 := v_frt (by simp) (by simp) fM (fr_X7_isNumberTo hz1)
  rcases v_iteS h with ⟨c, h⟩ | ⟨c, h⟩
  · obtain ⟨hb, h⟩ := v_ckS h
    have h := Option.some.inj h
    subst h
    exact fz1
  · obtain ⟨hb, h⟩ := v_ckS h
    obtain ⟨M2, eM2, h⟩ := v_ltM h
    have fM2 : v_fr [(qo + 2), (qo + 3)] [(35, 2), (35, 3), (35, 4), (35, 6)] M M2 := by rw [eM2]; exact v_frw (by simp) fz1
    obtain ⟨z3, hz3, h⟩ := v_bdS h
    have fz3 : v_fr [(qo + 2), (qo + 3)] [(35, 2), (35, 3), (35, 4), (35, 6)] M z3.2 := v_frt (by simp) (by simp) fM2 (fr_X7_step hz3)
    rcases v_iteS h with ⟨c, h⟩ | ⟨c, h⟩
    · obtain ⟨z4, hz4, h⟩ := v_bdS h
      have fz4 : v_fr [(qo + 2), (qo + 3)] [(35, 2), (35, 3), (35, 4), (35, 6)] M z4.2 := v_frt (by simp) (by simp) fz3 (fr_X7_step hz4)
      obtain ⟨z5, hz5, h⟩ := v_bdS h
      have fz5 : v_fr [(qo + 2), (qo + 3)] [(35, 2), (35, 3), (35, 4), (35, 6)] M z5.2 := v_frt (by simp) (by simp) fz4 (fr_X7_isNumberTo hz5)
      rcases v_iteS h with ⟨c, h⟩ | ⟨c, h⟩
      · obtain ⟨hb, h⟩ := v_ckS h
        have h := Option.some.inj h
        subst h
        exact fz5
      · obtain ⟨hb, h⟩ := v_ckS h
        obtain ⟨M6, eM6, h⟩ := v_ltM h
        have fM6 : v_fr [(qo + 2), (qo + 3)] [(35, 2), (35, 3), (35, 4), (35, 6)] M M6 := by rw [eM6]; exact v_frw (by simp) fz5
        obtain ⟨z7, hz7, h⟩ := v_bdS h
        have fz7 : v_fr [(qo + 2), (qo + 3)] [(35, 2), (35, 3), (35, 4), (35, 6)] M z7.2 := v_frt (by simp) (by simp) fM6 (fr_X7_step hz7)
        obtain ⟨hb, h⟩ := v_ckS h
        have h := Option.some.inj h
        subst h
        exact fz7
    · obtain ⟨z8, hz8, h⟩ := v_bdS h
      have fz8 : v_fr [(qo + 2), (qo + 3)] [(35, 2), (35, 3), (35, 4), (35, 6)] M z8.2 := v_frt (by simp) (by simp) fz3 (fr_X7_fail hz8)
      obtain ⟨hb, h⟩ := v_ckS h
      have h := Option.some.inj h
      subst h
      exact fz8
theorem fw_X7_readSum_L52 {N : Nat} {qo : Nat} {x1 : Int32} {t0 : Int32} {M : v_M} {out : Int32 × v_M} {k11 : Int32 → v_M → Option (Int32 × v_M)} (hk11 : ∀ (x1 : Int32) (M : v_M), k11 x1 M = some out → v_fr [(qo + 6)] [(35, 2), (35, 3), (35, 4), (35, 5), (35, 6), (qo, 3)] M out.2) (h : f_X7_readSum_L52 N qo k11 x1 t0 M = some out) : v_fr [(qo + 6)] [(35, 2), (35, 3), (35, 4), (35, 5), (35, 6), (qo, 3)] M out.2 := by
  have fM : v_fr [(qo + 6)] [(35, 2), (35, 3), (35, 4), (35, 5), (35, 6), (qo, 3)] M M := v_frR
  unfold f_X7_readSum_L52 at h
  obtain ⟨z1, hz1, h⟩ := v_bdS h
  have fz1 : v_fr [(qo + 6)] [(35, 2), (35, 3), (35, 4), (35, 5), (35, 6), (qo, 3)] M z1.2 := v_frt (by simp) (by simp) fM (fr_X7_step hz1)
  obtain ⟨z2, hz2, h⟩ := v_bdS h
  have fz2 : v_fr [(qo + 6)] [(35, 2), (35, 3), (35, 4), (35, 5), (35, 6), (qo, 3)] M z2.2 := v_frt (by simp) (by simp) fz1 (fr_X7_readValue hz2)
  rcases v_iteS h with ⟨c, h⟩ | ⟨c, h⟩
  · obtain ⟨hb, h⟩ := v_ckS h
    have h := Option.some.inj h
    subst h
    exact fz2
  · obtain ⟨z3, hz3, h⟩ := v_bdS h
    have fz3 : v_fr [(qo + 6)] [(35, 2), (35, 3), (35, 4), (35, 5), (35, 6), (qo, 3)] M z3.2 := v_frt (by simp) (by simp) fz2 (fr_X5_emit hz3)
    exact v_frT fz3 (hk11 _ _ h)
theorem fw_X7_readSum_L36 {N : Nat} {qo : Nat} {x1 : Int32} {M : v_M} {out : Int32 × v_M} {k11 : Int32 → v_M → Option (Int32 × v_M)} (hk11 : ∀ (x1 : Int32) (M : v_M), k11 x1 M = some out → v_fr [(qo + 6)] [(35, 2), (35, 3), (35, 4), (35, 5), (35, 6), (qo, 3)] M out.2) (h : f_X7_readSum_L36 N qo k11 x1 M = some out) : v_fr [(qo + 6)] [(35, 2), (35, 3), (35, 4), (35, 5), (35, 6), (qo, 3)] M out.2 := by
  have fM : v_fr [(qo + 6)] [(35, 2), (35, 3), (35, 4), (35, 5), (35, 6), (qo, 3)] M M := v_frR
  unfold f_X7_readSum_L36 at h
  rcases v_iteS h with ⟨c, h⟩ | ⟨c, h⟩
  · exact v_frT fM (fw_X7_readSum_L52 hk11 h)
  · exact v_frT fM (fw_X7_readSum_L52 hk11 h)
theorem fv_X7_readSum_L11 {N : Nat} {qo : Nat} {out : Int32 × v_M} (n : Nat) : ∀ (x1 : Int32) (M : v_M), f_X7_readSum_L11 N qo n x1 M = some out → v_fr [(qo + 6)] [(35, 2), (35, 3), (35, 4), (35, 5), (35, 6), (qo, 3)] M out.2 := by
  induction n with
  | zero => intro x1 M h; rw [f_X7_readSum_L11] at h; cases h
  | succ n ih =>
    intro x1 M h
    have fM : v_fr [(qo + 6)] [(35, 2), (35, 3), (35, 4), (35, 5), (35, 6), (qo, 3)] M M := v_frR
    rw [f_X7_readSum_L11] at h
    rcases v_iteS h with ⟨c, h⟩ | ⟨c, h⟩
    · obtain ⟨hb, h⟩ := v_ckS h
      have h := Option.some.inj h
      subst h
      exact fM
    · rcases v_iteS h with ⟨c, h⟩ | ⟨c, h⟩
      · exact v_frT fM (fw_X7_readSum_L36 ih h)
      · rcases v_iteS h with ⟨c, h⟩ | ⟨c, h⟩
        · exact v_frT fM (fw_X7_readSum_L36 ih h)
        · obtain ⟨hb, h⟩ := v_ckS h
          have h := Option.some.inj h
          subst h
          exact fM
theorem fw_X7_readSum_L11 {N n : Nat} {qo : Nat} {x1 : Int32} {M : v_M} {out : Int32 × v_M} (h : f_X7_readSum_L11 N qo n x1 M = some out) : v_fr [(qo + 6)] [(35, 2), (35, 3), (35, 4), (35, 5), (35, 6), (qo, 3)] M out.2 := fv_X7_readSum_L11 n x1 M h
theorem fr_X7_readSum {N : Nat} {qo : Nat} {M : v_M} {out : Int32 × v_M} (h : f_X7_readSum N qo M = some out) : v_fr [(qo + 6)] [(35, 2), (35, 3), (35, 4), (35, 5), (35, 6), (qo, 3)] M out.2 := by
  have fM : v_fr [(qo + 6)] [(35, 2), (35, 3), (35, 4), (35, 5), (35, 6), (qo, 3)] M M := v_frR
  unfold f_X7_readSum at h
  obtain ⟨z1, hz1, h⟩ := v_bdS h
  have fz1 : v_fr [(qo + 6)] [(35, 2), (35, 3), (35, 4), (35, 5), (35, 6), (qo, 3)] M z1.2 := v_frt (by simp) (by simp) fM (fr_X7_readValue hz1)
  rcases v_iteS h with ⟨c, h⟩ | ⟨c, h⟩
  · obtain ⟨hb, h⟩ := v_ckS h
    have h := Option.some.inj h
    subst h
    exact fz1
  · exact v_frT fz1 (fw_X7_readSum_L11 h)
theorem fw_X9_splitOne_L73 {N : Nat} {x2 : Int32} {M : v_M} {out : Int32 × v_M} (h : f_X9_splitOne_L73 N x2 M = some out) : v_fr [40] [(36, 2)] M out.2 := by
  have fM : v_fr [40] [(36, 2)] M M := v_frR
  unfold f_X9_splitOne_L73 at h
  obtain ⟨z1, hz1, h⟩ := v_bdS h
  have fz1 : v_fr [40] [(36, 2)] M z1.2 := v_frt (by simp) (by simp) fM (fr_X9_byteAt hz1)
  rcases v_iteS h with ⟨c, h⟩ | ⟨c, h⟩
  · obtain ⟨M2, eM2, h⟩ := v_ltM h
    have fM2 : v_fr [40] [(36, 2)] M M2 := by rw [eM2]; exact v_fro (by simp) fz1
    rcases v_iteS h with ⟨c, h⟩ | ⟨c, h⟩
    · have h := Option.some.inj h
      subst h
      exact fM2
    · have h := Option.some.inj h
      subst h
      exact fM2
  · have h := Option.some.inj h
    subst h
    exact fz1
theorem fw_X9_splitOne_L57 {N : Nat} {x2 : Int32} {t0 : Int32} {t1 : Int32} {M : v_M} {out : Int32 × v_M} (h : f_X9_splitOne_L57 N x2 t0 t1 M = some out) : v_fr [40] [(36, 2)] M out.2 := by
  have fM : v_fr [40] [(36, 2)] M M := v_frR
  unfold f_X9_splitOne_L57 at h
  obtain ⟨M1, eM1, h⟩ := v_ltM h
  have fM1 : v_fr [40] [(36, 2)] M M1 := by rw [eM1]; exact v_fro (by simp) fM
  rcases v_iteS h with ⟨c, h⟩ | ⟨c, h⟩
  · exact v_frT fM1 (fw_X9_splitOne_L73 h)
  · rcases v_iteS h with ⟨c, h⟩ | ⟨c, h⟩
    · exact v_frT fM1 (fw_X9_splitOne_L73 h)
    · have h := Option.some.inj h
      subst h
      exact fM1
theorem fr_X9_splitOne {N : Nat} {x1 : Int32} {M : v_M} {out : Int32 × v_M} (h : f_X9_splitOne N x1 M = some out) : v_fr [40] [(36, 2)] M out.2 := by
  have fM : v_fr [40] [(36, 2)] M M := v_frR
  unfold f_X9_splitOne at h
  obtain ⟨z1, hz1, h⟩ := v_bdS h
  have fz1 : v_fr [40] [(36, 2)] M z1.2 := v_frt (by simp) (by simp) fM (fr_X9_byteAt hz1)
  obtain ⟨y2, ey2, h⟩ := v_ltM h
  obtain ⟨z3, hz3, h⟩ := v_bdS h
  have fz3 : v_fr [40] [(36, 2)] M z3.2 := v_frt (by simp) (by simp) fz1 (fr_X9_isDigit hz3)
  rcases v_iteS h with ⟨c, h⟩ | ⟨c, h⟩
  · obtain ⟨z4, hz4, h⟩ := v_bdS h
    have fz4 : v_fr [40] [(36, 2)] M z4.2 := v_frt (by simp) (by simp) fz3 (fr_X9_isLetter hz4)
    rcases v_iteS h with ⟨c, h⟩ | ⟨c, h⟩
    · rcases v_iteS h with ⟨c, h⟩ | ⟨c, h⟩
      · exact v_frT fz4 (fw_X9_splitOne_L57 h)
      · exact v_frT fz4 (fw_X9_splitOne_L57 h)
    · obtain ⟨z5, hz5, h⟩ := v_bdS h
      have fz5 : v_fr [40] [(36, 2)] M z5.2 := v_frt (by simp) (by simp) fz4 (fr_X9_splitWord hz5)
      have h := Option.some.inj h
      subst h
      exact fz5
  · obtain ⟨z6, hz6, h⟩ := v_bdS h
    have fz6 : v_fr [40] [(36, 2)] M z6.2 := v_frt (by simp) (by simp) fz3 (fr_X9_splitNumber hz6)
    obtain ⟨hb, h⟩ := v_ckS h
    obtain ⟨M7, eM7, h⟩ := v_ltM h
    have fM7 : v_fr [40] [(36, 2)] M M7 := by rw [eM7]; exact v_frw (by simp) fz6
    have h := Option.some.inj h
    subst h
    exact fM7
theorem fw_X10_canBe_L111 {N : Nat} {x4 : Int32} {x5 : Int32} {M : v_M} {out : Int32 × v_M} {k71 : Int32 → Int32 → v_M → Option (Int32 × v_M)} (hk71 : ∀ (x4 : Int32) (x5 : Int32) (M : v_M), k71 x4 x5 M = some out → v_fr [67, 68, 69, 70] [(64, 0)] M out.2) (h : f_X10_canBe_L111 N k71 x4 x5 M = some out) : v_fr [67, 68, 69, 70] [(64, 0)] M out.2 := by
  have fM : v_fr [67, 68, 69, 70] [(64, 0)] M M := v_frR
  unfold f_X10_canBe_L111 at h
  exact v_frT fM (hk71 _ _ _ h)
theorem fv_X10_canBe_L71 {N : Nat} {out : Int32 × v_M} (n : Nat) : ∀ (x4 : Int32) (x5 : Int32) (M : v_M), f_X10_canBe_L71 N n x4 x5 M = some out → v_fr [67, 68, 69, 70] [(64, 0)] M out.2 := by
  induction n with
  | zero => intro x4 x5 M h; rw [f_X10_canBe_L71] at h; cases h
  | succ n ih =>
    intro x4 x5 M h
    have fM : v_fr [67, 68, 69, 70] [(64, 0)] M M := v_frR
    rw [f_X10_canBe_L71] at h
    rcases v_iteS h with ⟨c, h⟩ | ⟨c, h⟩
    · obtain ⟨hb, h⟩ := v_ckS h
      have h := Option.some.inj h
      subst h
      exact fM
    · obtain ⟨hb, h⟩ := v_ckS h
      rcases v_iteS h with ⟨c, h⟩ | ⟨c, h⟩
      · exact v_frT fM (fw_X10_canBe_L111 ih h)
      · rcases v_iteS h with ⟨c, h⟩ | ⟨c, h⟩
        · exact v_frT fM (fw_X10_canBe_L111 ih h)
        · obtain ⟨z1, hz1, h⟩ := v_bdS h
          have fz1 : v_fr [67, 68, 69, 70] [(64, 0)] M z1.2 := v_frt (by simp) (by simp) fM (fr_X10_choose hz1)
          rcases v_iteS h with ⟨c, h⟩ | ⟨c, h⟩
          · obtain ⟨hb, h⟩ := v_ckS h
            have h := Option.some.inj h
            subst h
            exact fz1
          · exact v_frT fz1 (fw_X10_canBe_L111 ih h)
theorem fw_X10_canBe_L71 {N n : Nat} {x4 : Int32} {x5 : Int32} {M : v_M} {out : Int32 × v_M} (h : f_X10_canBe_L71 N n x4 x5 M = some out) : v_fr [67, 68, 69, 70] [(64, 0)] M out.2 := fv_X10_canBe_L71 n x4 x5 M h
theorem fw_X10_canBe_L68 {N : Nat} {x4 : Int32} {M : v_M} {out : Int32 × v_M} (h : f_X10_canBe_L68 N x4 M = some out) : v_fr [67, 68, 69, 70] [(64, 0)] M out.2 := by
  have fM : v_fr [67, 68, 69, 70] [(64, 0)] M M := v_frR
  unfold f_X10_canBe_L68 at h
  exact v_frT fM (fw_X10_canBe_L71 h)
theorem fw_X10_canBe_L66 {N : Nat} {t0 : Int32} {M : v_M} {out : Int32 × v_M} (h : f_X10_canBe_L66 N t0 M = some out) : v_fr [67, 68, 69, 70] [(64, 0)] M out.2 := by
  have fM : v_fr [67, 68, 69, 70] [(64, 0)] M M := v_frR
  unfold f_X10_canBe_L66 at h
  exact v_frT fM (fw_X10_canBe_L68 h)
theorem fr_X10_canBe {N : Nat} {x2 : Int32} {x3 : Int32} {M : v_M} {out : Int32 × v_M} (h : f_X10_canBe N x2 x3 M = some out) : v_fr [67, 68, 69, 70] [(64, 0)] M out.2 := by
  have fM : v_fr [67, 68, 69, 70] [(64, 0)] M M := v_frR
  unfold f_X10_canBe at h
  obtain ⟨z1, hz1, h⟩ := v_bdS h
  have fz1 : v_fr [67, 68, 69, 70] [(64, 0)] M z1.2 := v_frt (by simp) (by simp) fM (fr_J7_fill_53178 hz1)
  obtain ⟨z2, hz2, h⟩ := v_bdS h
  have fz2 : v_fr [67, 68, 69, 70] [(64, 0)] M z2.2 := v_frt (by simp) (by simp) fz1 (fr_J7_fill_53178 hz2)
  obtain ⟨M3, eM3, h⟩ := v_ltM h
  have fM3 : v_fr [67, 68, 69, 70] [(64, 0)] M M3 := by rw [eM3]; exact v_fro (by simp) fz2
  obtain ⟨z4, hz4, h⟩ := v_bdS h
  have fz4 : v_fr [67, 68, 69, 70] [(64, 0)] M z4.2 := v_frt (by simp) (by simp) fM3 (fr_X11_within hz4)
  rcases v_iteS h with ⟨c, h⟩ | ⟨c, h⟩
  · exact v_frT fz4 (fw_X10_canBe_L68 h)
  · obtain ⟨hb, h⟩ := v_ckS h
    obtain ⟨hb, h⟩ := v_ckS h
    obtain ⟨M5, eM5, h⟩ := v_ltM h
    have fM5 : v_fr [67, 68, 69, 70] [(64, 0)] M M5 := by rw [eM5]; exact v_frw (by simp) fz4
    obtain ⟨z6, hz6, h⟩ := v_bdS h
    have fz6 : v_fr [67, 68, 69, 70] [(64, 0)] M z6.2 := v_frt (by simp) (by simp) fM5 (fr_X10_serves hz6)
    rcases v_iteS h with ⟨c, h⟩ | ⟨c, h⟩
    · exact v_frT fz6 (fw_X10_canBe_L66 h)
    · obtain ⟨hb, h⟩ := v_ckS h
      exact v_frT fz6 (fw_X10_canBe_L66 h)
theorem fr_X11_push {N : Nat} {x1 : Int32} {x2 : Int32} {x3 : Int32} {M : v_M} {out : Int32 × v_M} (h : f_X11_push N x1 x2 x3 M = some out) : v_fr [14, 15, 19, 20, 21, 22, 23, 24, 25, 26, 27] [] M out.2 := by
  have fM : v_fr [14, 15, 19, 20, 21, 22, 23, 24, 25, 26, 27] [] M M := v_frR
  unfold f_X11_push at h
  obtain ⟨z1, hz1, h⟩ := v_bdS h
  have fz1 : v_fr [14, 15, 19, 20, 21, 22, 23, 24, 25, 26, 27] [] M z1.2 := v_frt (by simp) (by simp) fM (fr_X11_hasPartOf hz1)
  rcases v_iteS h with ⟨c, h⟩ | ⟨c, h⟩
  · have h := Option.some.inj h
    subst h
    exact fz1
  · obtain ⟨z2, hz2, h⟩ := v_bdS h
    have fz2 : v_fr [14, 15, 19, 20, 21, 22, 23, 24, 25, 26, 27] [] M z2.2 := v_frt (by simp) (by simp) fz1 (fr_X11_within hz2)
    rcases v_iteS h with ⟨c, h⟩ | ⟨c, h⟩
    · have h := Option.some.inj h
      subst h
      exact fz2
    · obtain ⟨z3, hz3, h⟩ := v_bdS h
      have fz3 : v_fr [14, 15, 19, 20, 21, 22, 23, 24, 25, 26, 27] [] M z3.2 := v_frt (by simp) (by simp) fz2 (fr_X11_within hz3)
      rcases v_iteS h with ⟨c, h⟩ | ⟨c, h⟩
      · have h := Option.some.inj h
        subst h
        exact fz3
      · obtain ⟨z4, hz4, h⟩ := v_bdS h
        have fz4 : v_fr [14, 15, 19, 20, 21, 22, 23, 24, 25, 26, 27] [] M z4.2 := v_frt (by simp) (by simp) fz3 (fr_X2_load hz4)
        obtain ⟨z5, hz5, h⟩ := v_bdS h
        have fz5 : v_fr [14, 15, 19, 20, 21, 22, 23, 24, 25, 26, 27] [] M z5.2 := v_frt (by simp) (by simp) fz4 (fr_X2_press hz5)
        obtain ⟨z6, hz6, h⟩ := v_bdS h
        have fz6 : v_fr [14, 15, 19, 20, 21, 22, 23, 24, 25, 26, 27] [] M z6.2 := v_frt (by simp) (by simp) fz5 (fr_X2_bend hz6)
        obtain ⟨z7, hz7, h⟩ := v_bdS h
        have fz7 : v_fr [14, 15, 19, 20, 21, 22, 23, 24, 25, 26, 27] [] M z7.2 := v_frt (by simp) (by simp) fz6 (fr_X2_save hz7)
        obtain ⟨hb, h⟩ := v_ckS h
        have h := Option.some.inj h
        subst h
        exact fz7
theorem fr_X11_isUnlikeAt {N : Nat} {x1 : Int32} {x2 : Int32} {x3 : Int32} {x4 : Int32} {x5 : Int32} {M : v_M} {out : Int32 × v_M} (h : f_X11_isUnlikeAt N x1 x2 x3 x4 x5 M = some out) : v_fr [22, 25, 26, 27] [] M out.2 := by
  have fM : v_fr [22, 25, 26, 27] [] M M := v_frR
  unfold f_X11_isUnlikeAt at h
  obtain ⟨z1, hz1, h⟩ := v_bdS h
  have fz1 : v_fr [22, 25, 26, 27] [] M z1.2 := v_frt (by simp) (by simp) fM (fr_X11_hasPart hz1)
  rcases v_iteS h with ⟨c, h⟩ | ⟨c, h⟩
  · obtain ⟨hb, h⟩ := v_ckS h
    have h := Option.some.inj h
    subst h
    exact fz1
  · obtain ⟨z2, hz2, h⟩ := v_bdS h
    have fz2 : v_fr [22, 25, 26, 27] [] M z2.2 := v_frt (by simp) (by simp) fz1 (fr_X11_hasPart hz2)
    rcases v_iteS h with ⟨c, h⟩ | ⟨c, h⟩
    · obtain ⟨hb, h⟩ := v_ckS h
      have h := Option.some.inj h
      subst h
      exact fz2
    · obtain ⟨hb, h⟩ := v_ckS h
      obtain ⟨hb, h⟩ := v_ckS h
      obtain ⟨M3, eM3, h⟩ := v_ltM h
      have fM3 : v_fr [22, 25, 26, 27] [] M M3 := by rw [eM3]; exact v_frw (by simp) fz2
      obtain ⟨hb, h⟩ := v_ckS h
      obtain ⟨hb, h⟩ := v_ckS h
      obtain ⟨M4, eM4, h⟩ := v_ltM h
      have fM4 : v_fr [22, 25, 26, 27] [] M M4 := by rw [eM4]; exact v_frw (by simp) fM3
      obtain ⟨z5, hz5, h⟩ := v_bdS h
      have fz5 : v_fr [22, 25, 26, 27] [] M z5.2 := v_frt (by simp) (by simp) fM4 (fr_X2_press hz5)
      obtain ⟨z6, hz6, h⟩ := v_bdS h
      have fz6 : v_fr [22, 25, 26, 27] [] M z6.2 := v_frt (by simp) (by simp) fz5 (fr_X2_isUnlike hz6)
      obtain ⟨hb, h⟩ := v_ckS h
      have h := Option.some.inj h
      subst h
      exact fz6
theorem fr_X11_goes {N : Nat} {x1 : Int32} {x2 : Int32} {x3 : Int32} {M : v_M} {out : Int32 × v_M} (h : f_X11_goes N x1 x2 x3 M = some out) : v_fr [19, 20, 21, 22, 23, 24, 25, 28] [] M out.2 := by
  have fM : v_fr [19, 20, 21, 22, 23, 24, 25, 28] [] M M := v_frR
  unfold f_X11_goes at h
  obtain ⟨z1, hz1, h⟩ := v_bdS h
  have fz1 : v_fr [19, 20, 21, 22, 23, 24, 25, 28] [] M z1.2 := v_frt (by simp) (by simp) fM (fr_X11_hasMachine hz1)
  rcases v_iteS h with ⟨c, h⟩ | ⟨c, h⟩
  · have h := Option.some.inj h
    subst h
    exact fz1
  · obtain ⟨z2, hz2, h⟩ := v_bdS h
    have fz2 : v_fr [19, 20, 21, 22, 23, 24, 25, 28] [] M z2.2 := v_frt (by simp) (by simp) fz1 (fr_X11_within hz2)
    rcases v_iteS h with ⟨c, h⟩ | ⟨c, h⟩
    · have h := Option.some.inj h
      subst h
      exact fz2
    · obtain ⟨z3, hz3, h⟩ := v_bdS h
      have fz3 : v_fr [19, 20, 21, 22, 23, 24, 25, 28] [] M z3.2 := v_frt (by simp) (by simp) fz2 (fr_X11_within hz3)
      rcases v_iteS h with ⟨c, h⟩ | ⟨c, h⟩
      · have h := Option.some.inj h
        subst h
        exact fz3
      · obtain ⟨z4, hz4, h⟩ := v_bdS h
        have fz4 : v_fr [19, 20, 21, 22, 23, 24, 25, 28] [] M z4.2 := v_frt (by simp) (by simp) fz3 (fr_X2_load hz4)
        obtain ⟨z5, hz5, h⟩ := v_bdS h
        have fz5 : v_fr [19, 20, 21, 22, 23, 24, 25, 28] [] M z5.2 := v_frt (by simp) (by simp) fz4 (fr_X2_heightItGoes hz5)
        have h := Option.some.inj h
        subst h
        exact fz5
theorem fr_X11_stamp {N : Nat} {x1 : Int32} {x2 : Int32} {x3 : Int32} {x4 : Int32} {M : v_M} {out : Int32 × v_M} (h : f_X11_stamp N x1 x2 x3 x4 M = some out) : v_fr [53, 54, 55, 56, 57, 58, 59, 60] [(52, 0)] M out.2 := by
  have fM : v_fr [53, 54, 55, 56, 57, 58, 59, 60] [(52, 0)] M M := v_frR
  unfold f_X11_stamp at h
  obtain ⟨z1, hz1, h⟩ := v_bdS h
  have fz1 : v_fr [53, 54, 55, 56, 57, 58, 59, 60] [(52, 0)] M z1.2 := v_frt (by simp) (by simp) fM (fr_X11_canBeDone hz1)
  rcases v_iteS h with ⟨c, h⟩ | ⟨c, h⟩
  · have h := Option.some.inj h
    subst h
    exact fz1
  · obtain ⟨z2, hz2, h⟩ := v_bdS h
    have fz2 : v_fr [53, 54, 55, 56, 57, 58, 59, 60] [(52, 0)] M z2.2 := v_frt (by simp) (by simp) fz1 (fr_X11_within hz2)
    rcases v_iteS h with ⟨c, h⟩ | ⟨c, h⟩
    · have h := Option.some.inj h
      subst h
      exact fz2
    · rcases v_iteS h with ⟨c, h⟩ | ⟨c, h⟩
      · obtain ⟨z3, hz3, h⟩ := v_bdS h
        have fz3 : v_fr [53, 54, 55, 56, 57, 58, 59, 60] [(52, 0)] M z3.2 := v_frt (by simp) (by simp) fz2 (fr_X8_put hz3)
        have h := Option.some.inj h
        subst h
        exact fz3
      · have h := Option.some.inj h
        subst h
        exact fz2
theorem fr_X11_see {N : Nat} {x1 : Int32} {x2 : Int32} {x3 : Int32} {x4 : Int32} {M : v_M} {out : Int32 × v_M} (h : f_X11_see N x1 x2 x3 x4 M = some out) : v_fr [61, 62, 63] [(52, 9)] M out.2 := by
  have fM : v_fr [61, 62, 63] [(52, 9)] M M := v_frR
  unfold f_X11_see at h
  obtain ⟨z1, hz1, h⟩ := v_bdS h
  have fz1 : v_fr [61, 62, 63] [(52, 9)] M z1.2 := v_frt (by simp) (by simp) fM (fr_X11_canBeDone hz1)
  rcases v_iteS h with ⟨c, h⟩ | ⟨c, h⟩
  · have h := Option.some.inj h
    subst h
    exact fz1
  · rcases v_iteS h with ⟨c, h⟩ | ⟨c, h⟩
    · obtain ⟨z2, hz2, h⟩ := v_bdS h
      have fz2 : v_fr [61, 62, 63] [(52, 9)] M z2.2 := v_frt (by simp) (by simp) fz1 (fr_X8_putSeen hz2)
      have h := Option.some.inj h
      subst h
      exact fz2
    · have h := Option.some.inj h
      subst h
      exact fz1
theorem fr_X11_fewest {N : Nat} {M : v_M} {out : Int32 × v_M} (h : f_X11_fewest N M = some out) : v_fr [65, 66, 67, 68, 69, 70] [(64, 0)] M out.2 := by
  have fM : v_fr [65, 66, 67, 68, 69, 70] [(64, 0)] M M := v_frR
  unfold f_X11_fewest at h
  obtain ⟨z1, hz1, h⟩ := v_bdS h
  have fz1 : v_fr [65, 66, 67, 68, 69, 70] [(64, 0)] M z1.2 := v_frt (by simp) (by simp) fM (fr_X10_learn hz1)
  obtain ⟨z2, hz2, h⟩ := v_bdS h
  have fz2 : v_fr [65, 66, 67, 68, 69, 70] [(64, 0)] M z2.2 := v_frt (by simp) (by simp) fz1 (fr_X10_canBe hz2)
  rcases v_iteS h with ⟨c, h⟩ | ⟨c, h⟩
  · have h := Option.some.inj h
    subst h
    exact fz2
  · obtain ⟨z3, hz3, h⟩ := v_bdS h
    have fz3 : v_fr [65, 66, 67, 68, 69, 70] [(64, 0)] M z3.2 := v_frt (by simp) (by simp) fz2 (fr_X10_leastFalse hz3)
    have h := Option.some.inj h
    subst h
    exact fz3
theorem fw_X11_sure_L82 {N : Nat} {x1 : Int32} {M : v_M} {out : Int32 × v_M} (h : f_X11_sure_L82 N x1 M = some out) : v_fr [65, 66, 67, 68, 69, 70] [(64, 0)] M out.2 := by
  have fM : v_fr [65, 66, 67, 68, 69, 70] [(64, 0)] M M := v_frR
  unfold f_X11_sure_L82 at h
  obtain ⟨z1, hz1, h⟩ := v_bdS h
  have fz1 : v_fr [65, 66, 67, 68, 69, 70] [(64, 0)] M z1.2 := v_frt (by simp) (by simp) fM (fr_X10_mayBeTrue hz1)
  rcases v_iteS h with ⟨c, h⟩ | ⟨c, h⟩
  · have h := Option.some.inj h
    subst h
    exact fz1
  · obtain ⟨z2, hz2, h⟩ := v_bdS h
    have fz2 : v_fr [65, 66, 67, 68, 69, 70] [(64, 0)] M z2.2 := v_frt (by simp) (by simp) fz1 (fr_X10_canBe hz2)
    rcases v_iteS h with ⟨c, h⟩ | ⟨c, h⟩
    · have h := Option.some.inj h
      subst h
      exact fz2
    · have h := Option.some.inj h
      subst h
      exact fz2
theorem fr_X11_sure {N : Nat} {x1 : Int32} {M : v_M} {out : Int32 × v_M} (h : f_X11_sure N x1 M = some out) : v_fr [65, 66, 67, 68, 69, 70] [(64, 0)] M out.2 := by
  have fM : v_fr [65, 66, 67, 68, 69, 70] [(64, 0)] M M := v_frR
  unfold f_X11_sure at h
  obtain ⟨z1, hz1, h⟩ := v_bdS h
  have fz1 : v_fr [65, 66, 67, 68, 69, 70] [(64, 0)] M z1.2 := v_frt (by simp) (by simp) fM (fr_X11_within hz1)
  rcases v_iteS h with ⟨c, h⟩ | ⟨c, h⟩
  · have h := Option.some.inj h
    subst h
    exact fz1
  · obtain ⟨z2, hz2, h⟩ := v_bdS h
    have fz2 : v_fr [65, 66, 67, 68, 69, 70] [(64, 0)] M z2.2 := v_frt (by simp) (by simp) fz1 (fr_X10_learn hz2)
    obtain ⟨z3, hz3, h⟩ := v_bdS h
    have fz3 : v_fr [65, 66, 67, 68, 69, 70] [(64, 0)] M z3.2 := v_frt (by simp) (by simp) fz2 (fr_X10_canBe hz3)
    rcases v_iteS h with ⟨c, h⟩ | ⟨c, h⟩
    · have h := Option.some.inj h
      subst h
      exact fz3
    · obtain ⟨z4, hz4, h⟩ := v_bdS h
      have fz4 : v_fr [65, 66, 67, 68, 69, 70] [(64, 0)] M z4.2 := v_frt (by simp) (by simp) fz3 (fr_X10_serves hz4)
      rcases v_iteS h with ⟨c, h⟩ | ⟨c, h⟩
      · exact v_frT fz4 (fw_X11_sure_L82 h)
      · obtain ⟨z5, hz5, h⟩ := v_bdS h
        have fz5 : v_fr [65, 66, 67, 68, 69, 70] [(64, 0)] M z5.2 := v_frt (by simp) (by simp) fz4 (fr_X10_canBe hz5)
        rcases v_iteS h with ⟨c, h⟩ | ⟨c, h⟩
        · have h := Option.some.inj h
          subst h
          exact fz5
        · exact v_frT fz5 (fw_X11_sure_L82 h)
theorem fw_X0_bindByClause_L85 {N : Nat} {q1 : Nat} {t0 : Int32} {t1 : Int32} {M : v_M} {out : Int32 × v_M} (h : f_X0_bindByClause_L85 N q1 t0 t1 M = some out) : v_fr [51] [(49, 0), (49, 1), (49, 2), (49, 3), (49, 4)] M out.2 := by
  have fM : v_fr [51] [(49, 0), (49, 1), (49, 2), (49, 3), (49, 4)] M M := v_frR
  unfold f_X0_bindByClause_L85 at h
  obtain ⟨M1, eM1, h⟩ := v_ltM h
  have fM1 : v_fr [51] [(49, 0), (49, 1), (49, 2), (49, 3), (49, 4)] M M1 := by rw [eM1]; exact v_fro (by simp) fM
  have h := Option.some.inj h
  subst h
  exact fM1
theorem fr_X0_bindByClause {N : Nat} {q1 : Nat} {x2 : Int32} {x3 : Int32} {M : v_M} {out : Int32 × v_M} (h : f_X0_bindByClause N q1 x2 x3 M = some out) : v_fr [51] [(49, 0), (49, 1), (49, 2), (49, 3), (49, 4)] M out.2 := by
  have fM : v_fr [51] [(49, 0), (49, 1), (49, 2), (49, 3), (49, 4)] M M := v_frR
  unfold f_X0_bindByClause at h
  obtain ⟨hb, h⟩ := v_ckS h
  obtain ⟨y1, ey1, h⟩ := v_ltM h
  obtain ⟨hb, h⟩ := v_ckS h
  by_cases c0 : (M.1 (q1 + 1) x2.toNatClampNeg) = (0 : Int32)
  · rw [if_pos c0] at h
    obtain ⟨y2, ey2, h⟩ := v_ltM h
    obtain ⟨M3, eM3, h⟩ := v_ltM h
    have fM3 : v_fr [51] [(49, 0), (49, 1), (49, 2), (49, 3), (49, 4)] M M3 := by rw [eM3]; exact v_fro (by simp) fM
    obtain ⟨hb, h⟩ := v_ckS h
    rcases v_iteS h with ⟨c, h⟩ | ⟨c, h⟩
    · exact v_frT fM3 (fw_X0_bindByClause_L85 h)
    · exact v_frT fM3 (fw_X0_bindByClause_L85 h)
  · rw [if_neg c0] at h
    by_cases c1 : (M.1 (q1 + 1) x2.toNatClampNeg) = (1 : Int32)
    · rw [if_pos c1] at h
      obtain ⟨hb, h⟩ := v_ckS h
      obtain ⟨z4, hz4, h⟩ := v_bdS h
      have fz4 : v_fr [51] [(49, 0), (49, 1), (49, 2), (49, 3), (49, 4)] M z4.2 := v_frt (by simp) (by simp) fM (fr_X0_valueOf hz4)
      obtain ⟨M5, eM5, h⟩ := v_ltM h
      have fM5 : v_fr [51] [(49, 0), (49, 1), (49, 2), (49, 3), (49, 4)] M M5 := by rw [eM5]; exact v_fro (by simp) fz4
      have h := Option.some.inj h
      subst h
      exact fM5
    · rw [if_neg c1] at h
      by_cases c2 : (M.1 (q1 + 1) x2.toNatClampNeg) = (2 : Int32)
      · rw [if_pos c2] at h
        obtain ⟨M6, eM6, h⟩ := v_ltM h
        have fM6 : v_fr [51] [(49, 0), (49, 1), (49, 2), (49, 3), (49, 4)] M M6 := by rw [eM6]; exact v_fro (by simp) fM
        have h := Option.some.inj h
        subst h
        exact fM6
      · rw [if_neg c2] at h
        obtain ⟨hb, h⟩ := v_ckS h
        obtain ⟨M7, eM7, h⟩ := v_ltM h
        have fM7 : v_fr [51] [(49, 0), (49, 1), (49, 2), (49, 3), (49, 4)] M M7 := by rw [eM7]; exact v_fro (by simp) fM
        have h := Option.some.inj h
        subst h
        exact fM7
theorem fr_X7_readBody {N : Nat} {qo : Nat} {x1 : Int32} {x2 : Int32} {M : v_M} {out : Int32 × v_M} (h : f_X7_readBody N qo x1 x2 M = some out) : v_fr [(qo + 2), (qo + 3), (qo + 6)] [(35, 2), (35, 3), (35, 4), (35, 5), (35, 6), (qo, 3)] M out.2 := by
  have fM : v_fr [(qo + 2), (qo + 3), (qo + 6)] [(35, 2), (35, 3), (35, 4), (35, 5), (35, 6), (qo, 3)] M M := v_frR
  unfold f_X7_readBody at h
  by_cases c0 : x1 = (0 : Int32)
  · rw [if_pos c0] at h
    obtain ⟨z1, hz1, h⟩ := v_bdS h
    have fz1 : v_fr [(qo + 2), (qo + 3), (qo + 6)] [(35, 2), (35, 3), (35, 4), (35, 5), (35, 6), (qo, 3)] M z1.2 := v_frt (by simp) (by simp) fM (fr_X7_readMust hz1)
    obtain ⟨hb, h⟩ := v_ckS h
    have h := Option.some.inj h
    subst h
    exact fz1
  · rw [if_neg c0] at h
    by_cases c1 : x1 = (1 : Int32)
    · rw [if_pos c1] at h
      obtain ⟨hb, h⟩ := v_ckS h
      obtain ⟨M2, eM2, h⟩ := v_ltM h
      have fM2 : v_fr [(qo + 2), (qo + 3), (qo + 6)] [(35, 2), (35, 3), (35, 4), (35, 5), (35, 6), (qo, 3)] M M2 := by rw [eM2]; exact v_frw (by simp) fM
      obtain ⟨z3, hz3, h⟩ := v_bdS h
      have fz3 : v_fr [(qo + 2), (qo + 3), (qo + 6)] [(35, 2), (35, 3), (35, 4), (35, 5), (35, 6), (qo, 3)] M z3.2 := v_frt (by simp) (by simp) fM2 (fr_X7_readSum hz3)
      obtain ⟨hb, h⟩ := v_ckS h
      have h := Option.some.inj h
      subst h
      exact fz3
    · rw [if_neg c1] at h
      by_cases c2 : x1 = (2 : Int32)
      · rw [if_pos c2] at h
        obtain ⟨z4, hz4, h⟩ := v_bdS h
        have fz4 : v_fr [(qo + 2), (qo + 3), (qo + 6)] [(35, 2), (35, 3), (35, 4), (35, 5), (35, 6), (qo, 3)] M z4.2 := v_frt (by simp) (by simp) fM (fr_X7_readLook hz4)
        obtain ⟨hb, h⟩ := v_ckS h
        have h := Option.some.inj h
        subst h
        exact fz4
      · rw [if_neg c2] at h
        obtain ⟨hb, h⟩ := v_ckS h
        have h := Option.some.inj h
        subst h
        exact fM
theorem fw_X7_readFact_L19 {N : Nat} {qo : Nat} {rf : Int32 → v_M → Option (Int32 × v_M)} {x1 : Int32} {M : v_M} {out : Int32 × v_M} (hrf : ∀ (x : Int32) (M : v_M) (out : Int32 × v_M), rf x M = some out → v_fr [(qo + 6)] [(35, 2), (35, 3), (35, 4), (35, 5), (35, 6), (qo, 3)] M out.2) (h : f_X7_readFact_L19 N qo rf x1 M = some out) : v_fr [(qo + 6)] [(35, 2), (35, 3), (35, 4), (35, 5), (35, 6), (qo, 3)] M out.2 := by
  have fM : v_fr [(qo + 6)] [(35, 2), (35, 3), (35, 4), (35, 5), (35, 6), (qo, 3)] M M := v_frR
  unfold f_X7_readFact_L19 at h
  obtain ⟨z1, hz1, h⟩ := v_bdS h
  have fz1 : v_fr [(qo + 6)] [(35, 2), (35, 3), (35, 4), (35, 5), (35, 6), (qo, 3)] M z1.2 := v_frt (by simp) (by simp) fM (fr_X7_readInner hrf hz1)
  obtain ⟨hb, h⟩ := v_ckS h
  have h := Option.some.inj h
  subst h
  exact fz1
theorem fr_X7_readFact {N : Nat} {qo : Nat} {rf : Int32 → v_M → Option (Int32 × v_M)} {x1 : Int32} {M : v_M} {out : Int32 × v_M} (hrf : ∀ (x : Int32) (M : v_M) (out : Int32 × v_M), rf x M = some out → v_fr [(qo + 6)] [(35, 2), (35, 3), (35, 4), (35, 5), (35, 6), (qo, 3)] M out.2) (h : f_X7_readFact N qo rf x1 M = some out) : v_fr [(qo + 6)] [(35, 2), (35, 3), (35, 4), (35, 5), (35, 6), (qo, 3)] M out.2 := by
  have fM : v_fr [(qo + 6)] [(35, 2), (35, 3), (35, 4), (35, 5), (35, 6), (qo, 3)] M M := v_frR
  unfold f_X7_readFact at h
  rcases v_iteS h with ⟨c, h⟩ | ⟨c, h⟩
  · exact v_frT fM (fw_X7_readFact_L19 hrf h)
  · rcases v_iteS h with ⟨c, h⟩ | ⟨c, h⟩
    · exact v_frT fM (fw_X7_readFact_L19 hrf h)
    · obtain ⟨z1, hz1, h⟩ := v_bdS h
      have fz1 : v_fr [(qo + 6)] [(35, 2), (35, 3), (35, 4), (35, 5), (35, 6), (qo, 3)] M z1.2 := v_frt (by simp) (by simp) fM (fr_X7_readSum hz1)
      rcases v_iteS h with ⟨c, h⟩ | ⟨c, h⟩
      · obtain ⟨hb, h⟩ := v_ckS h
        have h := Option.some.inj h
        subst h
        exact fz1
      · obtain ⟨z2, hz2, h⟩ := v_bdS h
        have fz2 : v_fr [(qo + 6)] [(35, 2), (35, 3), (35, 4), (35, 5), (35, 6), (qo, 3)] M z2.2 := v_frt (by simp) (by simp) fz1 (fr_X7_comparing hz2)
        obtain ⟨y3, ey3, h⟩ := v_ltM h
        rcases v_iteS h with ⟨c, h⟩ | ⟨c, h⟩
        · obtain ⟨z9, hz9, h⟩ := v_bdS h
          have fz9 : v_fr [(qo + 6)] [(35, 2), (35, 3), (35, 4), (35, 5), (35, 6), (qo, 3)] M z9.2 := v_frt (by simp) (by simp) fz2 (fr_X7_fail hz9)
          obtain ⟨hb, h⟩ := v_ckS h
          have h := Option.some.inj h
          subst h
          exact fz9
        · rcases v_iteS h with ⟨c, h⟩ | ⟨c, h⟩
          · obtain ⟨M4, eM4, h⟩ := v_ltM h
            have fM4 : v_fr [(qo + 6)] [(35, 2), (35, 3), (35, 4), (35, 5), (35, 6), (qo, 3)] M M4 := by rw [eM4]; exact v_fro (by simp) fz2
            obtain ⟨z5, hz5, h⟩ := v_bdS h
            have fz5 : v_fr [(qo + 6)] [(35, 2), (35, 3), (35, 4), (35, 5), (35, 6), (qo, 3)] M z5.2 := v_frt (by simp) (by simp) fM4 (fr_X7_step hz5)
            obtain ⟨z6, hz6, h⟩ := v_bdS h
            have fz6 : v_fr [(qo + 6)] [(35, 2), (35, 3), (35, 4), (35, 5), (35, 6), (qo, 3)] M z6.2 := v_frt (by simp) (by simp) fz5 (fr_X7_readSum hz6)
            rcases v_iteS h with ⟨c, h⟩ | ⟨c, h⟩
            · obtain ⟨hb, h⟩ := v_ckS h
              have h := Option.some.inj h
              subst h
              exact fz6
            · obtain ⟨z7, hz7, h⟩ := v_bdS h
              have fz7 : v_fr [(qo + 6)] [(35, 2), (35, 3), (35, 4), (35, 5), (35, 6), (qo, 3)] M z7.2 := v_frt (by simp) (by simp) fz6 (fr_X5_emit hz7)
              obtain ⟨hb, h⟩ := v_ckS h
              have h := Option.some.inj h
              subst h
              exact fz7
          · obtain ⟨z8, hz8, h⟩ := v_bdS h
            have fz8 : v_fr [(qo + 6)] [(35, 2), (35, 3), (35, 4), (35, 5), (35, 6), (qo, 3)] M z8.2 := v_frt (by simp) (by simp) fz2 (fr_X7_fail hz8)
            obtain ⟨hb, h⟩ := v_ckS h
            have h := Option.some.inj h
            subst h
            exact fz8
theorem fr_fact {N qo : Nat} (k : Nat) : ∀ (x : Int32) (M : v_M) (out : Int32 × v_M), f_fact N qo k x M = some out → v_fr [(qo + 6)] [(35, 2), (35, 3), (35, 4), (35, 5), (35, 6), (qo, 3)] M out.2 := by
  induction k with
  | zero => intro x M out h; rw [f_fact] at h; cases h
  | succ k ih =>
    intro x M out h
    rw [f_fact] at h
    exact fr_X7_readFact ih h
theorem fv_X9_split_L12 {N : Nat} {out : Int32 × v_M} (n : Nat) : ∀ (x1 : Int32) (M : v_M), f_X9_split_L12 N n x1 M = some out → v_fr [38, 39, 40] [(36, 1), (36, 2)] M out.2 := by
  induction n with
  | zero => intro x1 M h; rw [f_X9_split_L12] at h; cases h
  | succ n ih =>
    intro x1 M h
    have fM : v_fr [38, 39, 40] [(36, 1), (36, 2)] M M := v_frR
    rw [f_X9_split_L12] at h
    rcases v_iteS h with ⟨c, h⟩ | ⟨c, h⟩
    · have h := Option.some.inj h
      subst h
      exact fM
    · obtain ⟨z1, hz1, h⟩ := v_bdS h
      have fz1 : v_fr [38, 39, 40] [(36, 1), (36, 2)] M z1.2 := v_frt (by simp) (by simp) fM (fr_X9_skipBlanks hz1)
      obtain ⟨hb, h⟩ := v_ckS h
      obtain ⟨M2, eM2, h⟩ := v_ltM h
      have fM2 : v_fr [38, 39, 40] [(36, 1), (36, 2)] M M2 := by rw [eM2]; exact v_frw (by simp) fz1
      obtain ⟨z3, hz3, h⟩ := v_bdS h
      have fz3 : v_fr [38, 39, 40] [(36, 1), (36, 2)] M z3.2 := v_frt (by simp) (by simp) fM2 (fr_X9_splitOne hz3)
      obtain ⟨hb, h⟩ := v_ckS h
      obtain ⟨M4, eM4, h⟩ := v_ltM h
      have fM4 : v_fr [38, 39, 40] [(36, 1), (36, 2)] M M4 := by rw [eM4]; exact v_frw (by simp) fz3
      obtain ⟨M5, eM5, h⟩ := v_ltM h
      have fM5 : v_fr [38, 39, 40] [(36, 1), (36, 2)] M M5 := by rw [eM5]; exact v_fro (by simp) fM4
      obtain ⟨hb, h⟩ := v_ckS h
      rcases v_iteS h with ⟨c, h⟩ | ⟨c, h⟩
      · have h := Option.some.inj h
        subst h
        exact fM5
      · exact v_frT fM5 (ih _ _ h)
theorem fw_X9_split_L12 {N n : Nat} {x1 : Int32} {M : v_M} {out : Int32 × v_M} (h : f_X9_split_L12 N n x1 M = some out) : v_fr [38, 39, 40] [(36, 1), (36, 2)] M out.2 := fv_X9_split_L12 n x1 M h
theorem fr_X9_split {N : Nat} {M : v_M} {out : Int32 × v_M} (h : f_X9_split N M = some out) : v_fr [38, 39, 40] [(36, 1), (36, 2)] M out.2 := by
  have fM : v_fr [38, 39, 40] [(36, 1), (36, 2)] M M := v_frR
  unfold f_X9_split at h
  obtain ⟨M1, eM1, h⟩ := v_ltM h
  have fM1 : v_fr [38, 39, 40] [(36, 1), (36, 2)] M M1 := by rw [eM1]; exact v_fro (by simp) fM
  obtain ⟨M2, eM2, h⟩ := v_ltM h
  have fM2 : v_fr [38, 39, 40] [(36, 1), (36, 2)] M M2 := by rw [eM2]; exact v_fro (by simp) fM1
  exact v_frT fM2 (fw_X9_split_L12 h)
theorem fw_X11_tried_L101 {N : Nat} {x2 : Int32} {x3 : Int32} {x4 : Int32} {x5 : Int32} {x6 : Int32} {x7 : Int32} {x8 : Int32} {x9 : Int32} {x10 : Int32} {M : v_M} {out : Int32 × v_M} {k46 : Int32 → Int32 → Int32 → Int32 → Int32 → Int32 → Int32 → Int32 → v_M → Option (Int32 × v_M)} (hk46 : ∀ (x2 : Int32) (x3 : Int32) (x4 : Int32) (x5 : Int32) (x6 : Int32) (x7 : Int32) (x8 : Int32) (x9 : Int32) (M : v_M), k46 x2 x3 x4 x5 x6 x7 x8 x9 M = some out → v_fr [19, 20, 21, 22, 23, 24, 25, 26, 27] [] M out.2) {k56 : Int32 → Int32 → Int32 → Int32 → Int32 → Int32 → Int32 → Int32 → Int32 → v_M → Option (Int32 × v_M)} (hk56 : ∀ (x2 : Int32) (x3 : Int32) (x4 : Int32) (x5 : Int32) (x6 : Int32) (x7 : Int32) (x8 : Int32) (x9 : Int32) (x10 : Int32) (M : v_M), k56 x2 x3 x4 x5 x6 x7 x8 x9 x10 M = some out → v_fr [19, 20, 21, 22, 23, 24, 25, 26, 27] [] M out.2) (h : f_X11_tried_L101 N k46 k56 x2 x3 x4 x5 x6 x7 x8 x9 x10 M = some out) : v_fr [19, 20, 21, 22, 23, 24, 25, 26, 27] [] M out.2 := by
  have fM : v_fr [19, 20, 21, 22, 23, 24, 25, 26, 27] [] M M := v_frR
  unfold f_X11_tried_L101 at h
  exact v_frT fM (hk56 _ _ _ _ _ _ _ _ _ _ h)
theorem fv_X11_tried_L56 {N : Nat} {out : Int32 × v_M} {k46 : Int32 → Int32 → Int32 → Int32 → Int32 → Int32 → Int32 → Int32 → v_M → Option (Int32 × v_M)} (hk46 : ∀ (x2 : Int32) (x3 : Int32) (x4 : Int32) (x5 : Int32) (x6 : Int32) (x7 : Int32) (x8 : Int32) (x9 : Int32) (M : v_M), k46 x2 x3 x4 x5 x6 x7 x8 x9 M = some out → v_fr [19, 20, 21, 22, 23, 24, 25, 26, 27] [] M out.2) (n : Nat) : ∀ (x2 : Int32) (x3 : Int32) (x4 : Int32) (x5 : Int32) (x6 : Int32) (x7 : Int32) (x8 : Int32) (x9 : Int32) (x10 : Int32) (M : v_M), f_X11_tried_L56 N k46 n x2 x3 x4 x5 x6 x7 x8 x9 x10 M = some out → v_fr [19, 20, 21, 22, 23, 24, 25, 26, 27] [] M out.2 := by
  induction n with
  | zero => intro x2 x3 x4 x5 x6 x7 x8 x9 x10 M h; rw [f_X11_tried_L56] at h; cases h
  | succ n ih =>
    intro x2 x3 x4 x5 x6 x7 x8 x9 x10 M h
    have fM : v_fr [19, 20, 21, 22, 23, 24, 25, 26, 27] [] M M := v_frR
    rw [f_X11_tried_L56] at h
    rcases v_iteS h with ⟨c, h⟩ | ⟨c, h⟩
    · exact v_frT fM (hk46 _ _ _ _ _ _ _ _ _ h)
    · obtain ⟨y1, ey1, h⟩ := v_ltM h
      obtain ⟨z2, hz2, h⟩ := v_bdS h
      have fz2 : v_fr [19, 20, 21, 22, 23, 24, 25, 26, 27] [] M z2.2 := v_frt (by simp) (by simp) fM (fr_X11_isUnlikeAt hz2)
      rcases v_iteS h with ⟨c, h⟩ | ⟨c, h⟩
      · exact v_frT fz2 (fw_X11_tried_L101 hk46 ih h)
      · rcases v_iteS h with ⟨c, h⟩ | ⟨c, h⟩
        · have h := Option.some.inj h
          subst h
          exact fz2
        · exact v_frT fz2 (fw_X11_tried_L101 hk46 ih h)
theorem fw_X11_tried_L56 {N n : Nat} {x2 : Int32} {x3 : Int32} {x4 : Int32} {x5 : Int32} {x6 : Int32} {x7 : Int32} {x8 : Int32} {x9 : Int32} {x10 : Int32} {M : v_M} {out : Int32 × v_M} {k46 : Int32 → Int32 → Int32 → Int32 → Int32 → Int32 → Int32 → Int32 → v_M → Option (Int32 × v_M)} (hk46 : ∀ (x2 : Int32) (x3 : Int32) (x4 : Int32) (x5 : Int32) (x6 : Int32) (x7 : Int32) (x8 : Int32) (x9 : Int32) (M : v_M), k46 x2 x3 x4 x5 x6 x7 x8 x9 M = some out → v_fr [19, 20, 21, 22, 23, 24, 25, 26, 27] [] M out.2) (h : f_X11_tried_L56 N k46 n x2 x3 x4 x5 x6 x7 x8 x9 x10 M = some out) : v_fr [19, 20, 21, 22, 23, 24, 25, 26, 27] [] M out.2 := fv_X11_tried_L56 hk46 n x2 x3 x4 x5 x6 x7 x8 x9 x10 M h
theorem fv_X11_tried_L46 {N : Nat} {out : Int32 × v_M} (n : Nat) : ∀ (x2 : Int32) (x3 : Int32) (x4 : Int32) (x5 : Int32) (x6 : Int32) (x7 : Int32) (x8 : Int32) (x9 : Int32) (M : v_M), f_X11_tried_L46 N n x2 x3 x4 x5 x6 x7 x8 x9 M = some out → v_fr [19, 20, 21, 22, 23, 24, 25, 26, 27] [] M out.2 := by
  induction n with
  | zero => intro x2 x3 x4 x5 x6 x7 x8 x9 M h; rw [f_X11_tried_L46] at h; cases h
  | succ n ih =>
    intro x2 x3 x4 x5 x6 x7 x8 x9 M h
    have fM : v_fr [19, 20, 21, 22, 23, 24, 25, 26, 27] [] M M := v_frR
    rw [f_X11_tried_L46] at h
    rcases v_iteS h with ⟨c, h⟩ | ⟨c, h⟩
    · rcases v_iteS h with ⟨c, h⟩ | ⟨c, h⟩
      · have h := Option.some.inj h
        subst h
        exact fM
      · have h := Option.some.inj h
        subst h
        exact fM
    · exact v_frT fM (fw_X11_tried_L56 ih h)
theorem fw_X11_tried_L46 {N n : Nat} {x2 : Int32} {x3 : Int32} {x4 : Int32} {x5 : Int32} {x6 : Int32} {x7 : Int32} {x8 : Int32} {x9 : Int32} {M : v_M} {out : Int32 × v_M} (h : f_X11_tried_L46 N n x2 x3 x4 x5 x6 x7 x8 x9 M = some out) : v_fr [19, 20, 21, 22, 23, 24, 25, 26, 27] [] M out.2 := fv_X11_tried_L46 n x2 x3 x4 x5 x6 x7 x8 x9 M h
theorem fr_X11_tried {N : Nat} {x1 : Int32} {x2 : Int32} {x3 : Int32} {x4 : Int32} {x5 : Int32} {x6 : Int32} {x7 : Int32} {M : v_M} {out : Int32 × v_M} (h : f_X11_tried N x1 x2 x3 x4 x5 x6 x7 M = some out) : v_fr [19, 20, 21, 22, 23, 24, 25, 26, 27] [] M out.2 := by
  have fM : v_fr [19, 20, 21, 22, 23, 24, 25, 26, 27] [] M M := v_frR
  unfold f_X11_tried at h
  obtain ⟨z1, hz1, h⟩ := v_bdS h
  have fz1 : v_fr [19, 20, 21, 22, 23, 24, 25, 26, 27] [] M z1.2 := v_frt (by simp) (by simp) fM (fr_X11_canTry hz1)
  rcases v_iteS h with ⟨c, h⟩ | ⟨c, h⟩
  · have h := Option.some.inj h
    subst h
    exact fz1
  · rcases v_iteS h with ⟨c, h⟩ | ⟨c, h⟩
    · obtain ⟨z2, hz2, h⟩ := v_bdS h
      have fz2 : v_fr [19, 20, 21, 22, 23, 24, 25, 26, 27] [] M z2.2 := v_frt (by simp) (by simp) fz1 (fr_X2_load hz2)
      exact v_frT fz2 (fw_X11_tried_L46 h)
    · have h := Option.some.inj h
      subst h
      exact fz1
theorem fv_X11_unlikePair_L36 {N : Nat} {out : Int32 × v_M} {k27 : Int32 → Int32 → Int32 → Int32 → Int32 → Int32 → v_M → Option (Int32 × v_M)} (hk27 : ∀ (x1 : Int32) (x2 : Int32) (x3 : Int32) (x4 : Int32) (x5 : Int32) (x7 : Int32) (M : v_M), k27 x1 x2 x3 x4 x5 x7 M = some out → v_fr [22, 25, 26, 27] [] M out.2) (n : Nat) : ∀ (x1 : Int32) (x2 : Int32) (x3 : Int32) (x4 : Int32) (x5 : Int32) (x7 : Int32) (x8 : Int32) (M : v_M), f_X11_unlikePair_L36 N k27 n x1 x2 x3 x4 x5 x7 x8 M = some out → v_fr [22, 25, 26, 27] [] M out.2 := by
  induction n with
  | zero => intro x1 x2 x3 x4 x5 x7 x8 M h; rw [f_X11_unlikePair_L36] at h; cases h
  | succ n ih =>
    intro x1 x2 x3 x4 x5 x7 x8 M h
    have fM : v_fr [22, 25, 26, 27] [] M M := v_frR
    rw [f_X11_unlikePair_L36] at h
    rcases v_iteS h with ⟨c, h⟩ | ⟨c, h⟩
    · exact v_frT fM (hk27 _ _ _ _ _ _ _ h)
    · obtain ⟨z1, hz1, h⟩ := v_bdS h
      have fz1 : v_fr [22, 25, 26, 27] [] M z1.2 := v_frt (by simp) (by simp) fM (fr_X11_isUnlikeAt hz1)
      rcases v_iteS h with ⟨c, h⟩ | ⟨c, h⟩
      · exact v_frT fz1 (ih _ _ _ _ _ _ _ _ h)
      · have h := Option.some.inj h
        subst h
        exact fz1
theorem fw_X11_unlikePair_L36 {N n : Nat} {x1 : Int32} {x2 : Int32} {x3 : Int32} {x4 : Int32} {x5 : Int32} {x7 : Int32} {x8 : Int32} {M : v_M} {out : Int32 × v_M} {k27 : Int32 → Int32 → Int32 → Int32 → Int32 → Int32 → v_M → Option (Int32 × v_M)} (hk27 : ∀ (x1 : Int32) (x2 : Int32) (x3 : Int32) (x4 : Int32) (x5 : Int32) (x7 : Int32) (M : v_M), k27 x1 x2 x3 x4 x5 x7 M = some out → v_fr [22, 25, 26, 27] [] M out.2) (h : f_X11_unlikePair_L36 N k27 n x1 x2 x3 x4 x5 x7 x8 M = some out) : v_fr [22, 25, 26, 27] [] M out.2 := fv_X11_unlikePair_L36 hk27 n x1 x2 x3 x4 x5 x7 x8 M h
theorem fv_X11_unlikePair_L27 {N : Nat} {out : Int32 × v_M} (n : Nat) : ∀ (x1 : Int32) (x2 : Int32) (x3 : Int32) (x4 : Int32) (x5 : Int32) (x7 : Int32) (M : v_M), f_X11_unlikePair_L27 N n x1 x2 x3 x4 x5 x7 M = some out → v_fr [22, 25, 26, 27] [] M out.2 := by
  induction n with
  | zero => intro x1 x2 x3 x4 x5 x7 M h; rw [f_X11_unlikePair_L27] at h; cases h
  | succ n ih =>
    intro x1 x2 x3 x4 x5 x7 M h
    have fM : v_fr [22, 25, 26, 27] [] M M := v_frR
    rw [f_X11_unlikePair_L27] at h
    rcases v_iteS h with ⟨c, h⟩ | ⟨c, h⟩
    · have h := Option.some.inj h
      subst h
      exact fM
    · exact v_frT fM (fw_X11_unlikePair_L36 ih h)
theorem fw_X11_unlikePair_L27 {N n : Nat} {x1 : Int32} {x2 : Int32} {x3 : Int32} {x4 : Int32} {x5 : Int32} {x7 : Int32} {M : v_M} {out : Int32 × v_M} (h : f_X11_unlikePair_L27 N n x1 x2 x3 x4 x5 x7 M = some out) : v_fr [22, 25, 26, 27] [] M out.2 := fv_X11_unlikePair_L27 n x1 x2 x3 x4 x5 x7 M h
theorem fw_X11_unlikePair_L24 {N : Nat} {x1 : Int32} {x2 : Int32} {x3 : Int32} {x4 : Int32} {x5 : Int32} {M : v_M} {out : Int32 × v_M} (h : f_X11_unlikePair_L24 N x1 x2 x3 x4 x5 M = some out) : v_fr [22, 25, 26, 27] [] M out.2 := by
  have fM : v_fr [22, 25, 26, 27] [] M M := v_frR
  unfold f_X11_unlikePair_L24 at h
  exact v_frT fM (fw_X11_unlikePair_L27 h)
theorem fr_X11_unlikePair {N : Nat} {x1 : Int32} {x2 : Int32} {x3 : Int32} {x4 : Int32} {x5 : Int32} {x6 : Int32} {M : v_M} {out : Int32 × v_M} (h : f_X11_unlikePair N x1 x2 x3 x4 x5 x6 M = some out) : v_fr [22, 25, 26, 27] [] M out.2 := by
  have fM : v_fr [22, 25, 26, 27] [] M M := v_frR
  unfold f_X11_unlikePair at h
  rcases v_iteS h with ⟨c, h⟩ | ⟨c, h⟩
  · exact v_frT fM (fw_X11_unlikePair_L24 h)
  · obtain ⟨z1, hz1, h⟩ := v_bdS h
    have fz1 : v_fr [22, 25, 26, 27] [] M z1.2 := v_frt (by simp) (by simp) fM (fr_X11_isUnlikeAt hz1)
    rcases v_iteS h with ⟨c, h⟩ | ⟨c, h⟩
    · exact v_frT fz1 (fw_X11_unlikePair_L24 h)
    · have h := Option.some.inj h
      subst h
      exact fz1
theorem fw_X0_bindBy_L70 {N : Nat} {q1 : Nat} {x2 : Int32} {x3 : Int32} {M : v_M} {out : Int32 × v_M} {k14 : Int32 → Int32 → v_M → Option (Int32 × v_M)} (hk14 : ∀ (x2 : Int32) (x3 : Int32) (M : v_M), k14 x2 x3 M = some out → v_fr [50, 51] [(49, 0), (49, 1), (49, 2), (49, 3), (49, 4)] M out.2) (h : f_X0_bindBy_L70 N q1 k14 x2 x3 M = some out) : v_fr [50, 51] [(49, 0), (49, 1), (49, 2), (49, 3), (49, 4)] M out.2 := by
  have fM : v_fr [50, 51] [(49, 0), (49, 1), (49, 2), (49, 3), (49, 4)] M M := v_frR
  unfold f_X0_bindBy_L70 at h
  exact v_frT fM (hk14 _ _ _ h)
theorem fw_X0_bindBy_L63 {N : Nat} {q1 : Nat} {x2 : Int32} {x3 : Int32} {M : v_M} {out : Int32 × v_M} {k14 : Int32 → Int32 → v_M → Option (Int32 × v_M)} (hk14 : ∀ (x2 : Int32) (x3 : Int32) (M : v_M), k14 x2 x3 M = some out → v_fr [50, 51] [(49, 0), (49, 1), (49, 2), (49, 3), (49, 4)] M out.2) (h : f_X0_bindBy_L63 N q1 k14 x2 x3 M = some out) : v_fr [50, 51] [(49, 0), (49, 1), (49, 2), (49, 3), (49, 4)] M out.2 := by
  have fM : v_fr [50, 51] [(49, 0), (49, 1), (49, 2), (49, 3), (49, 4)] M M := v_frR
  unfold f_X0_bindBy_L63 at h
  obtain ⟨z1, hz1, h⟩ := v_bdS h
  have fz1 : v_fr [50, 51] [(49, 0), (49, 1), (49, 2), (49, 3), (49, 4)] M z1.2 := v_frt (by simp) (by simp) fM (fr_X0_bindByClause hz1)
  exact v_frT fz1 (fw_X0_bindBy_L70 hk14 h)
theorem fv_X0_bindBy_L14 {N : Nat} {q1 : Nat} {out : Int32 × v_M} (n : Nat) : ∀ (x2 : Int32) (x3 : Int32) (M : v_M), f_X0_bindBy_L14 N q1 n x2 x3 M = some out → v_fr [50, 51] [(49, 0), (49, 1), (49, 2), (49, 3), (49, 4)] M out.2 := by
  induction n with
  | zero => intro x2 x3 M h; rw [f_X0_bindBy_L14] at h; cases h
  | succ n ih =>
    intro x2 x3 M h
    have fM : v_fr [50, 51] [(49, 0), (49, 1), (49, 2), (49, 3), (49, 4)] M M := v_frR
    rw [f_X0_bindBy_L14] at h
    rcases v_iteS h with ⟨c, h⟩ | ⟨c, h⟩
    · have h := Option.some.inj h
      subst h
      exact fM
    · rcases v_iteS h with ⟨c, h⟩ | ⟨c, h⟩
      · have h := Option.some.inj h
        subst h
        exact fM
      · obtain ⟨hb, h⟩ := v_ckS h
        obtain ⟨y1, ey1, h⟩ := v_ltM h
        obtain ⟨hb, h⟩ := v_ckS h
        obtain ⟨y2, ey2, h⟩ := v_ltM h
        rcases v_iteS h with ⟨c, h⟩ | ⟨c, h⟩
        · exact v_frT fM (fw_X0_bindBy_L63 ih h)
        · obtain ⟨z3, hz3, h⟩ := v_bdS h
          have fz3 : v_fr [50, 51] [(49, 0), (49, 1), (49, 2), (49, 3), (49, 4)] M z3.2 := v_frt (by simp) (by simp) fM (fr_X0_valueOf hz3)
          rcases v_iteS h with ⟨c, h⟩ | ⟨c, h⟩
          · exact v_frT fz3 (fw_X0_bindBy_L70 ih h)
          · exact v_frT fz3 (fw_X0_bindBy_L63 ih h)
theorem fw_X0_bindBy_L14 {N n : Nat} {q1 : Nat} {x2 : Int32} {x3 : Int32} {M : v_M} {out : Int32 × v_M} (h : f_X0_bindBy_L14 N q1 n x2 x3 M = some out) : v_fr [50, 51] [(49, 0), (49, 1), (49, 2), (49, 3), (49, 4)] M out.2 := fv_X0_bindBy_L14 n x2 x3 M h
theorem fr_X0_bindBy {N : Nat} {q1 : Nat} {x2 : Int32} {M : v_M} {out : Int32 × v_M} (h : f_X0_bindBy N q1 x2 M = some out) : v_fr [50, 51] [(49, 0), (49, 1), (49, 2), (49, 3), (49, 4)] M out.2 := by
  have fM : v_fr [50, 51] [(49, 0), (49, 1), (49, 2), (49, 3), (49, 4)] M M := v_frR
  unfold f_X0_bindBy at h
  obtain ⟨hb, h⟩ := v_ckS h
  obtain ⟨M1, eM1, h⟩ := v_ltM h
  have fM1 : v_fr [50, 51] [(49, 0), (49, 1), (49, 2), (49, 3), (49, 4)] M M1 := by rw [eM1]; exact v_frw (by simp) fM
  exact v_frT fM1 (fw_X0_bindBy_L14 h)
theorem fw_X7_readClause_L108 {N : Nat} {qo : Nat} {x1 : Int32} {M : v_M} {out : Int32 × v_M} (h : f_X7_readClause_L108 N qo x1 M = some out) : v_fr [(qo + 1), (qo + 2), (qo + 3), (qo + 4), (qo + 5), (qo + 6)] [(35, 2), (35, 3), (35, 4), (35, 5), (35, 6), (qo, 2), (qo, 3)] M out.2 := by
  have fM : v_fr [(qo + 1), (qo + 2), (qo + 3), (qo + 4), (qo + 5), (qo + 6)] [(35, 2), (35, 3), (35, 4), (35, 5), (35, 6), (qo, 2), (qo, 3)] M M := v_frR
  unfold f_X7_readClause_L108 at h
  obtain ⟨hb, h⟩ := v_ckS h
  obtain ⟨M1, eM1, h⟩ := v_ltM h
  have fM1 : v_fr [(qo + 1), (qo + 2), (qo + 3), (qo + 4), (qo + 5), (qo + 6)] [(35, 2), (35, 3), (35, 4), (35, 5), (35, 6), (qo, 2), (qo, 3)] M M1 := by rw [eM1]; exact v_frw (by simp) fM
  obtain ⟨M2, eM2, h⟩ := v_ltM h
  have fM2 : v_fr [(qo + 1), (qo + 2), (qo + 3), (qo + 4), (qo + 5), (qo + 6)] [(35, 2), (35, 3), (35, 4), (35, 5), (35, 6), (qo, 2), (qo, 3)] M M2 := by rw [eM2]; exact v_fro (by simp) fM1
  obtain ⟨hb, h⟩ := v_ckS h
  have h := Option.some.inj h
  subst h
  exact fM2
theorem fr_X7_readClause {N : Nat} {qo : Nat} {x1 : Int32} {M : v_M} {out : Int32 × v_M} (h : f_X7_readClause N qo x1 M = some out) : v_fr [(qo + 1), (qo + 2), (qo + 3), (qo + 4), (qo + 5), (qo + 6)] [(35, 2), (35, 3), (35, 4), (35, 5), (35, 6), (qo, 2), (qo, 3)] M out.2 := by
  have fM : v_fr [(qo + 1), (qo + 2), (qo + 3), (qo + 4), (qo + 5), (qo + 6)] [(35, 2), (35, 3), (35, 4), (35, 5), (35, 6), (qo, 2), (qo, 3)] M M := v_frR
  unfold f_X7_readClause at h
  obtain ⟨z1, hz1, h⟩ := v_bdS h
  have fz1 : v_fr [(qo + 1), (qo + 2), (qo + 3), (qo + 4), (qo + 5), (qo + 6)] [(35, 2), (35, 3), (35, 4), (35, 5), (35, 6), (qo, 2), (qo, 3)] M z1.2 := v_frt (by simp) (by simp) fM (fr_X11_within hz1)
  rcases v_iteS h with ⟨c, h⟩ | ⟨c, h⟩
  · obtain ⟨z10, hz10, h⟩ := v_bdS h
    have fz10 : v_fr [(qo + 1), (qo + 2), (qo + 3), (qo + 4), (qo + 5), (qo + 6)] [(35, 2), (35, 3), (35, 4), (35, 5), (35, 6), (qo, 2), (qo, 3)] M z10.2 := v_frt (by simp) (by simp) fz1 (fr_X7_fail hz10)
    obtain ⟨hb, h⟩ := v_ckS h
    have h := Option.some.inj h
    subst h
    exact fz10
  · rcases v_iteS h with ⟨c, h⟩ | ⟨c, h⟩
    · obtain ⟨y2, ey2, h⟩ := v_ltM h
      obtain ⟨hb, h⟩ := v_ckS h
      obtain ⟨M3, eM3, h⟩ := v_ltM h
      have fM3 : v_fr [(qo + 1), (qo + 2), (qo + 3), (qo + 4), (qo + 5), (qo + 6)] [(35, 2), (35, 3), (35, 4), (35, 5), (35, 6), (qo, 2), (qo, 3)] M M3 := by rw [eM3]; exact v_frw (by simp) fz1
      obtain ⟨z4, hz4, h⟩ := v_bdS h
      have fz4 : v_fr [(qo + 1), (qo + 2), (qo + 3), (qo + 4), (qo + 5), (qo + 6)] [(35, 2), (35, 3), (35, 4), (35, 5), (35, 6), (qo, 2), (qo, 3)] M z4.2 := v_frt (by simp) (by simp) fM3 (fr_X7_step hz4)
      obtain ⟨z5, hz5, h⟩ := v_bdS h
      have fz5 : v_fr [(qo + 1), (qo + 2), (qo + 3), (qo + 4), (qo + 5), (qo + 6)] [(35, 2), (35, 3), (35, 4), (35, 5), (35, 6), (qo, 2), (qo, 3)] M z5.2 := v_frt (by simp) (by simp) fz4 (fr_X7_readBody hz5)
      rcases v_iteS h with ⟨c, h⟩ | ⟨c, h⟩
      · obtain ⟨hb, h⟩ := v_ckS h
        have h := Option.some.inj h
        subst h
        exact fz5
      · obtain ⟨hb, h⟩ := v_ckS h
        obtain ⟨M6, eM6, h⟩ := v_ltM h
        have fM6 : v_fr [(qo + 1), (qo + 2), (qo + 3), (qo + 4), (qo + 5), (qo + 6)] [(35, 2), (35, 3), (35, 4), (35, 5), (35, 6), (qo, 2), (qo, 3)] M M6 := by rw [eM6]; exact v_frw (by simp) fz5
        rcases v_iteS h with ⟨c, h⟩ | ⟨c, h⟩
        · obtain ⟨z7, hz7, h⟩ := v_bdS h
          have fz7 : v_fr [(qo + 1), (qo + 2), (qo + 3), (qo + 4), (qo + 5), (qo + 6)] [(35, 2), (35, 3), (35, 4), (35, 5), (35, 6), (qo, 2), (qo, 3)] M z7.2 := v_frt (by simp) (by simp) fM6 (fr_X7_step hz7)
          obtain ⟨z8, hz8, h⟩ := v_bdS h
          have fz8 : v_fr [(qo + 1), (qo + 2), (qo + 3), (qo + 4), (qo + 5), (qo + 6)] [(35, 2), (35, 3), (35, 4), (35, 5), (35, 6), (qo, 2), (qo, 3)] M z8.2 := v_frt (by simp) (by simp) fz7 (fr_X7_readTest (fun x M out => fr_fact 12 x M out) hz8)
          rcases v_iteS h with ⟨c, h⟩ | ⟨c, h⟩
          · obtain ⟨hb, h⟩ := v_ckS h
            have h := Option.some.inj h
            subst h
            exact fz8
          · exact v_frT fz8 (fw_X7_readClause_L108 h)
        · exact v_frT fM6 (fw_X7_readClause_L108 h)
    · obtain ⟨z9, hz9, h⟩ := v_bdS h
      have fz9 : v_fr [(qo + 1), (qo + 2), (qo + 3), (qo + 4), (qo + 5), (qo + 6)] [(35, 2), (35, 3), (35, 4), (35, 5), (35, 6), (qo, 2), (qo, 3)] M z9.2 := v_frt (by simp) (by simp) fz1 (fr_X7_fail hz9)
      obtain ⟨hb, h⟩ := v_ckS h
      have h := Option.some.inj h
      subst h
      exact fz9
theorem fw_X11_cheapest_L125 {N : Nat} {x1 : Int32} {x2 : Int32} {x3 : Int32} {x4 : Int32} {x5 : Int32} {x6 : Int32} {x7 : Int32} {x8 : Int32} {x9 : Int32} {M : v_M} {out : Int32 × v_M} {k28 : Int32 → Int32 → Int32 → Int32 → Int32 → Int32 → Int32 → Int32 → Int32 → v_M → Option (Int32 × v_M)} (hk28 : ∀ (x1 : Int32) (x2 : Int32) (x3 : Int32) (x4 : Int32) (x5 : Int32) (x6 : Int32) (x7 : Int32) (x8 : Int32) (x9 : Int32) (M : v_M), k28 x1 x2 x3 x4 x5 x6 x7 x8 x9 M = some out → v_fr [19, 20, 21, 22, 23, 24, 25, 26, 27] [] M out.2) (h : f_X11_cheapest_L125 N k28 x1 x2 x3 x4 x5 x6 x7 x8 x9 M = some out) : v_fr [19, 20, 21, 22, 23, 24, 25, 26, 27] [] M out.2 := by
  have fM : v_fr [19, 20, 21, 22, 23, 24, 25, 26, 27] [] M M := v_frR
  unfold f_X11_cheapest_L125 at h
  exact v_frT fM (hk28 _ _ _ _ _ _ _ _ _ _ h)
theorem fw_X11_cheapest_L63 {N : Nat} {x1 : Int32} {x2 : Int32} {x3 : Int32} {x4 : Int32} {x5 : Int32} {x6 : Int32} {x7 : Int32} {x8 : Int32} {x9 : Int32} {M : v_M} {out : Int32 × v_M} {k28 : Int32 → Int32 → Int32 → Int32 → Int32 → Int32 → Int32 → Int32 → Int32 → v_M → Option (Int32 × v_M)} (hk28 : ∀ (x1 : Int32) (x2 : Int32) (x3 : Int32) (x4 : Int32) (x5 : Int32) (x6 : Int32) (x7 : Int32) (x8 : Int32) (x9 : Int32) (M : v_M), k28 x1 x2 x3 x4 x5 x6 x7 x8 x9 M = some out → v_fr [19, 20, 21, 22, 23, 24, 25, 26, 27] [] M out.2) (h : f_X11_cheapest_L63 N k28 x1 x2 x3 x4 x5 x6 x7 x8 x9 M = some out) : v_fr [19, 20, 21, 22, 23, 24, 25, 26, 27] [] M out.2 := by
  have fM : v_fr [19, 20, 21, 22, 23, 24, 25, 26, 27] [] M M := v_frR
  unfold f_X11_cheapest_L63 at h
  obtain ⟨z1, hz1, h⟩ := v_bdS h
  have fz1 : v_fr [19, 20, 21, 22, 23, 24, 25, 26, 27] [] M z1.2 := v_frt (by simp) (by simp) fM (fr_X2_load hz1)
  obtain ⟨z2, hz2, h⟩ := v_bdS h
  have fz2 : v_fr [19, 20, 21, 22, 23, 24, 25, 26, 27] [] M z2.2 := v_frt (by simp) (by simp) fz1 (fr_X1_applyTo hz2)
  obtain ⟨z3, hz3, h⟩ := v_bdS h
  have fz3 : v_fr [19, 20, 21, 22, 23, 24, 25, 26, 27] [] M z3.2 := v_frt (by simp) (by simp) fz2 (fr_X11_unlikePair hz3)
  obtain ⟨y4, ey4, h⟩ := v_ltM h
  rcases v_iteS h with ⟨c, h⟩ | ⟨c, h⟩
  · exact v_frT fz3 (fw_X11_cheapest_L125 hk28 h)
  · exact v_frT fz3 (fw_X11_cheapest_L125 hk28 h)
theorem fv_X11_cheapest_L28 {N : Nat} {out : Int32 × v_M} (n : Nat) : ∀ (x1 : Int32) (x2 : Int32) (x3 : Int32) (x4 : Int32) (x5 : Int32) (x6 : Int32) (x7 : Int32) (x8 : Int32) (x9 : Int32) (M : v_M), f_X11_cheapest_L28 N n x1 x2 x3 x4 x5 x6 x7 x8 x9 M = some out → v_fr [19, 20, 21, 22, 23, 24, 25, 26, 27] [] M out.2 := by
  induction n with
  | zero => intro x1 x2 x3 x4 x5 x6 x7 x8 x9 M h; rw [f_X11_cheapest_L28] at h; cases h
  | succ n ih =>
    intro x1 x2 x3 x4 x5 x6 x7 x8 x9 M h
    have fM : v_fr [19, 20, 21, 22, 23, 24, 25, 26, 27] [] M M := v_frR
    rw [f_X11_cheapest_L28] at h
    rcases v_iteS h with ⟨c, h⟩ | ⟨c, h⟩
    · have h := Option.some.inj h
      subst h
      exact fM
    · rcases v_iteS h with ⟨c, h⟩ | ⟨c, h⟩
      · exact v_frT fM (fw_X11_cheapest_L63 ih h)
      · obtain ⟨z1, hz1, h⟩ := v_bdS h
        have fz1 : v_fr [19, 20, 21, 22, 23, 24, 25, 26, 27] [] M z1.2 := v_frt (by simp) (by simp) fM (fr_X1_isCheaper hz1)
        rcases v_iteS h with ⟨c, h⟩ | ⟨c, h⟩
        · exact v_frT fz1 (fw_X11_cheapest_L125 ih h)
        · exact v_frT fz1 (fw_X11_cheapest_L63 ih h)
theorem fw_X11_cheapest_L28 {N n : Nat} {x1 : Int32} {x2 : Int32} {x3 : Int32} {x4 : Int32} {x5 : Int32} {x6 : Int32} {x7 : Int32} {x8 : Int32} {x9 : Int32} {M : v_M} {out : Int32 × v_M} (h : f_X11_cheapest_L28 N n x1 x2 x3 x4 x5 x6 x7 x8 x9 M = some out) : v_fr [19, 20, 21, 22, 23, 24, 25, 26, 27] [] M out.2 := fv_X11_cheapest_L28 n x1 x2 x3 x4 x5 x6 x7 x8 x9 M h
theorem fr_X11_cheapest {N : Nat} {x1 : Int32} {x2 : Int32} {x3 : Int32} {x4 : Int32} {x5 : Int32} {x6 : Int32} {M : v_M} {out : Int32 × v_M} (h : f_X11_cheapest N x1 x2 x3 x4 x5 x6 M = some out) : v_fr [19, 20, 21, 22, 23, 24, 25, 26, 27] [] M out.2 := by
  have fM : v_fr [19, 20, 21, 22, 23, 24, 25, 26, 27] [] M M := v_frR
  unfold f_X11_cheapest at h
  obtain ⟨z1, hz1, h⟩ := v_bdS h
  have fz1 : v_fr [19, 20, 21, 22, 23, 24, 25, 26, 27] [] M z1.2 := v_frt (by simp) (by simp) fM (fr_X11_canTry hz1)
  rcases v_iteS h with ⟨c, h⟩ | ⟨c, h⟩
  · have h := Option.some.inj h
    subst h
    exact fz1
  · exact v_frT fz1 (fw_X11_cheapest_L28 h)
theorem fw_X11_gatherBinding_L108 {N : Nat} {P : v_P} {x1 : Int32} {x2 : Int32} {M : v_M} {out : Int32 × v_M} {k34 : Int32 → Int32 → v_M → Option (Int32 × v_M)} (hk34 : ∀ (x1 : Int32) (x2 : Int32) (M : v_M), k34 x1 x2 M = some out → v_fr [50, 51] [(49, 0), (49, 1), (49, 2), (49, 3), (49, 4), (49, 5)] M out.2) (h : f_X11_gatherBinding_L108 N P k34 x1 x2 M = some out) : v_fr [50, 51] [(49, 0), (49, 1), (49, 2), (49, 3), (49, 4), (49, 5)] M out.2 := by
  have fM : v_fr [50, 51] [(49, 0), (49, 1), (49, 2), (49, 3), (49, 4), (49, 5)] M M := v_frR
  unfold f_X11_gatherBinding_L108 at h
  exact v_frT fM (hk34 _ _ _ h)
theorem fw_X11_gatherBinding_L91 {N : Nat} {P : v_P} {x1 : Int32} {x2 : Int32} {qd47 : Nat} {M : v_M} {out : Int32 × v_M} {k34 : Int32 → Int32 → v_M → Option (Int32 × v_M)} (hk34 : ∀ (x1 : Int32) (x2 : Int32) (M : v_M), k34 x1 x2 M = some out → v_fr [50, 51] [(49, 0), (49, 1), (49, 2), (49, 3), (49, 4), (49, 5)] M out.2) (h : f_X11_gatherBinding_L91 N P k34 x1 x2 qd47 M = some out) : v_fr [50, 51] [(49, 0), (49, 1), (49, 2), (49, 3), (49, 4), (49, 5)] M out.2 := by
  have fM : v_fr [50, 51] [(49, 0), (49, 1), (49, 2), (49, 3), (49, 4), (49, 5)] M M := v_frR
  unfold f_X11_gatherBinding_L91 at h
  obtain ⟨z1, hz1, h⟩ := v_bdS h
  have fz1 : v_fr [50, 51] [(49, 0), (49, 1), (49, 2), (49, 3), (49, 4), (49, 5)] M z1.2 := v_frt (by simp) (by simp) fM (fr_X0_bindBy hz1)
  exact v_frT fz1 (fw_X11_gatherBinding_L108 hk34 h)
theorem fv_X11_gatherBinding_L34 {N : Nat} {P : v_P} {out : Int32 × v_M} (n : Nat) : ∀ (x1 : Int32) (x2 : Int32) (M : v_M), f_X11_gatherBinding_L34 N P n x1 x2 M = some out → v_fr [50, 51] [(49, 0), (49, 1), (49, 2), (49, 3), (49, 4), (49, 5)] M out.2 := by
  induction n with
  | zero => intro x1 x2 M h; rw [f_X11_gatherBinding_L34] at h; cases h
  | succ n ih =>
    intro x1 x2 M h
    have fM : v_fr [50, 51] [(49, 0), (49, 1), (49, 2), (49, 3), (49, 4), (49, 5)] M M := v_frR
    rw [f_X11_gatherBinding_L34] at h
    rcases v_iteS h with ⟨c, h⟩ | ⟨c, h⟩
    · have h := Option.some.inj h
      subst h
      exact fM
    · obtain ⟨hb, h⟩ := v_ckS h
      cases eqqd47 : (P 48 x2.toNatClampNeg) with
      | none =>
        have h := v_optN eqqd47 h
        exact v_frT fM (fw_X11_gatherBinding_L108 ih h)
      | some qd47 =>
        have h := v_optS eqqd47 h
        rcases v_iteS h with ⟨c, h⟩ | ⟨c, h⟩
        · exact v_frT fM (fw_X11_gatherBinding_L108 ih h)
        · rcases v_iteS h with ⟨c, h⟩ | ⟨c, h⟩
          · exact v_frT fM (fw_X11_gatherBinding_L91 ih h)
          · rcases v_iteS h with ⟨c, h⟩ | ⟨c, h⟩
            · obtain ⟨z1, hz1, h⟩ := v_bdS h
              have fz1 : v_fr [50, 51] [(49, 0), (49, 1), (49, 2), (49, 3), (49, 4), (49, 5)] M z1.2 := v_frt (by simp) (by simp) fM (fr_X4_hasTaken hz1)
              rcases v_iteS h with ⟨c, h⟩ | ⟨c, h⟩
              · exact v_frT fz1 (fw_X11_gatherBinding_L108 ih h)
              · exact v_frT fz1 (fw_X11_gatherBinding_L91 ih h)
            · exact v_frT fM (fw_X11_gatherBinding_L108 ih h)
theorem fw_X11_gatherBinding_L34 {N n : Nat} {P : v_P} {x1 : Int32} {x2 : Int32} {M : v_M} {out : Int32 × v_M} (h : f_X11_gatherBinding_L34 N P n x1 x2 M = some out) : v_fr [50, 51] [(49, 0), (49, 1), (49, 2), (49, 3), (49, 4), (49, 5)] M out.2 := fv_X11_gatherBinding_L34 n x1 x2 M h
theorem fr_X11_gatherBinding {N : Nat} {P : v_P} {x1 : Int32} {M : v_M} {out : Int32 × v_M} (h : f_X11_gatherBinding N P x1 M = some out) : v_fr [50, 51] [(49, 0), (49, 1), (49, 2), (49, 3), (49, 4), (49, 5)] M out.2 := by
  have fM : v_fr [50, 51] [(49, 0), (49, 1), (49, 2), (49, 3), (49, 4), (49, 5)] M M := v_frR
  unfold f_X11_gatherBinding at h
  obtain ⟨z1, hz1, h⟩ := v_bdS h
  have fz1 : v_fr [50, 51] [(49, 0), (49, 1), (49, 2), (49, 3), (49, 4), (49, 5)] M z1.2 := v_frt (by simp) (by simp) fM (fr_X8_tasksOf hz1)
  obtain ⟨z2, hz2, h⟩ := v_bdS h
  have fz2 : v_fr [50, 51] [(49, 0), (49, 1), (49, 2), (49, 3), (49, 4), (49, 5)] M z2.2 := v_frt (by simp) (by simp) fz1 (fr_X0_begin hz2)
  obtain ⟨z3, hz3, h⟩ := v_bdS h
  have fz3 : v_fr [50, 51] [(49, 0), (49, 1), (49, 2), (49, 3), (49, 4), (49, 5)] M z3.2 := v_frt (by simp) (by simp) fz2 (fr_X0_know hz3)
  exact v_frT fz3 (fw_X11_gatherBinding_L34 h)
theorem fv_X7_compile_L35 {N : Nat} {qo : Nat} {out : Int32 × v_M} (n : Nat) : ∀ (x1 : Int32) (M : v_M), f_X7_compile_L35 N qo n x1 M = some out → v_fr [38, 39, 40, (qo + 1), (qo + 2), (qo + 3), (qo + 4), (qo + 5), (qo + 6)] [(35, 2), (35, 3), (35, 4), (35, 5), (35, 6), (36, 1), (36, 2), (qo, 2), (qo, 3)] M out.2 := by
  induction n with
  | zero => intro x1 M h; rw [f_X7_compile_L35] at h; cases h
  | succ n ih =>
    intro x1 M h
    have fM : v_fr [38, 39, 40, (qo + 1), (qo + 2), (qo + 3), (qo + 4), (qo + 5), (qo + 6)] [(35, 2), (35, 3), (35, 4), (35, 5), (35, 6), (36, 1), (36, 2), (qo, 2), (qo, 3)] M M := v_frR
    rw [f_X7_compile_L35] at h
    rcases v_iteS h with ⟨c, h⟩ | ⟨c, h⟩
    · have h := Option.some.inj h
      subst h
      exact fM
    · obtain ⟨z1, hz1, h⟩ := v_bdS h
      have fz1 : v_fr [38, 39, 40, (qo + 1), (qo + 2), (qo + 3), (qo + 4), (qo + 5), (qo + 6)] [(35, 2), (35, 3), (35, 4), (35, 5), (35, 6), (36, 1), (36, 2), (qo, 2), (qo, 3)] M z1.2 := v_frt (by simp) (by simp) fM (fr_X7_readClause hz1)
      rcases v_iteS h with ⟨c, h⟩ | ⟨c, h⟩
      · have h := Option.some.inj h
        subst h
        exact fz1
      · rcases v_iteS h with ⟨c, h⟩ | ⟨c, h⟩
        · have h := Option.some.inj h
          subst h
          exact fz1
        · rcases v_iteS h with ⟨c, h⟩ | ⟨c, h⟩
          · obtain ⟨z2, hz2, h⟩ := v_bdS h
            have fz2 : v_fr [38, 39, 40, (qo + 1), (qo + 2), (qo + 3), (qo + 4), (qo + 5), (qo + 6)] [(35, 2), (35, 3), (35, 4), (35, 5), (35, 6), (36, 1), (36, 2), (qo, 2), (qo, 3)] M z2.2 := v_frt (by simp) (by simp) fz1 (fr_X7_step hz2)
            exact v_frT fz2 (ih _ _ h)
          · obtain ⟨z3, hz3, h⟩ := v_bdS h
            have fz3 : v_fr [38, 39, 40, (qo + 1), (qo + 2), (qo + 3), (qo + 4), (qo + 5), (qo + 6)] [(35, 2), (35, 3), (35, 4), (35, 5), (35, 6), (36, 1), (36, 2), (qo, 2), (qo, 3)] M z3.2 := v_frt (by simp) (by simp) fz1 (fr_X7_fail hz3)
            have h := Option.some.inj h
            subst h
            exact fz3
theorem fw_X7_compile_L35 {N n : Nat} {qo : Nat} {x1 : Int32} {M : v_M} {out : Int32 × v_M} (h : f_X7_compile_L35 N qo n x1 M = some out) : v_fr [38, 39, 40, (qo + 1), (qo + 2), (qo + 3), (qo + 4), (qo + 5), (qo + 6)] [(35, 2), (35, 3), (35, 4), (35, 5), (35, 6), (36, 1), (36, 2), (qo, 2), (qo, 3)] M out.2 := fv_X7_compile_L35 n x1 M h
theorem fr_X7_compile {N : Nat} {qo : Nat} {M : v_M} {out : Int32 × v_M} (h : f_X7_compile N qo M = some out) : v_fr [38, 39, 40, (qo + 1), (qo + 2), (qo + 3), (qo + 4), (qo + 5), (qo + 6)] [(35, 2), (35, 3), (35, 4), (35, 5), (35, 6), (36, 1), (36, 2), (qo, 2), (qo, 3)] M out.2 := by
  have fM : v_fr [38, 39, 40, (qo + 1), (qo + 2), (qo + 3), (qo + 4), (qo + 5), (qo + 6)] [(35, 2), (35, 3), (35, 4), (35, 5), (35, 6), (36, 1), (36, 2), (qo, 2), (qo, 3)] M M := v_frR
  unfold f_X7_compile at h
  obtain ⟨z1, hz1, h⟩ := v_bdS h
  have fz1 : v_fr [38, 39, 40, (qo + 1), (qo + 2), (qo + 3), (qo + 4), (qo + 5), (qo + 6)] [(35, 2), (35, 3), (35, 4), (35, 5), (35, 6), (36, 1), (36, 2), (qo, 2), (qo, 3)] M z1.2 := v_frt (by simp) (by simp) fM (fr_X9_split hz1)
  obtain ⟨z2, hz2, h⟩ := v_bdS h
  have fz2 : v_fr [38, 39, 40, (qo + 1), (qo + 2), (qo + 3), (qo + 4), (qo + 5), (qo + 6)] [(35, 2), (35, 3), (35, 4), (35, 5), (35, 6), (36, 1), (36, 2), (qo, 2), (qo, 3)] M z2.2 := v_frt (by simp) (by simp) fz1 (fr_X5_clear hz2)
  obtain ⟨M3, eM3, h⟩ := v_ltM h
  have fM3 : v_fr [38, 39, 40, (qo + 1), (qo + 2), (qo + 3), (qo + 4), (qo + 5), (qo + 6)] [(35, 2), (35, 3), (35, 4), (35, 5), (35, 6), (36, 1), (36, 2), (qo, 2), (qo, 3)] M M3 := by rw [eM3]; exact v_fro (by simp) fz2
  obtain ⟨M4, eM4, h⟩ := v_ltM h
  have fM4 : v_fr [38, 39, 40, (qo + 1), (qo + 2), (qo + 3), (qo + 4), (qo + 5), (qo + 6)] [(35, 2), (35, 3), (35, 4), (35, 5), (35, 6), (36, 1), (36, 2), (qo, 2), (qo, 3)] M M4 := by rw [eM4]; exact v_fro (by simp) fM3
  obtain ⟨M5, eM5, h⟩ := v_ltM h
  have fM5 : v_fr [38, 39, 40, (qo + 1), (qo + 2), (qo + 3), (qo + 4), (qo + 5), (qo + 6)] [(35, 2), (35, 3), (35, 4), (35, 5), (35, 6), (36, 1), (36, 2), (qo, 2), (qo, 3)] M M5 := by rw [eM5]; exact v_fro (by simp) fM4
  obtain ⟨z6, hz6, h⟩ := v_bdS h
  have fz6 : v_fr [38, 39, 40, (qo + 1), (qo + 2), (qo + 3), (qo + 4), (qo + 5), (qo + 6)] [(35, 2), (35, 3), (35, 4), (35, 5), (35, 6), (36, 1), (36, 2), (qo, 2), (qo, 3)] M z6.2 := v_frt (by simp) (by simp) fM5 (fr_X7_step hz6)
  exact v_frT fz6 (fw_X7_compile_L35 h)
theorem fw_X11_bound_L104 {N : Nat} {P : v_P} {M : v_M} {out : Int32 × v_M} (h : f_X11_bound_L104 N P M = some out) : v_fr [50, 51] [(49, 0), (49, 1), (49, 2), (49, 3), (49, 4), (49, 5)] M out.2 := by
  have fM : v_fr [50, 51] [(49, 0), (49, 1), (49, 2), (49, 3), (49, 4), (49, 5)] M M := v_frR
  unfold f_X11_bound_L104 at h
  obtain ⟨z1, hz1, h⟩ := v_bdS h
  have fz1 : v_fr [50, 51] [(49, 0), (49, 1), (49, 2), (49, 3), (49, 4), (49, 5)] M z1.2 := v_frt (by simp) (by simp) fM (fr_X11_asNumber hz1)
  have h := Option.some.inj h
  subst h
  exact fz1
theorem fr_X11_bound {N : Nat} {P : v_P} {x1 : Int32} {x2 : Int32} {M : v_M} {out : Int32 × v_M} (h : f_X11_bound N P x1 x2 M = some out) : v_fr [50, 51] [(49, 0), (49, 1), (49, 2), (49, 3), (49, 4), (49, 5)] M out.2 := by
  have fM : v_fr [50, 51] [(49, 0), (49, 1), (49, 2), (49, 3), (49, 4), (49, 5)] M M := v_frR
  unfold f_X11_bound at h
  obtain ⟨z1, hz1, h⟩ := v_bdS h
  have fz1 : v_fr [50, 51] [(49, 0), (49, 1), (49, 2), (49, 3), (49, 4), (49, 5)] M z1.2 := v_frt (by simp) (by simp) fM (fr_X11_hasMachine hz1)
  rcases v_iteS h with ⟨c, h⟩ | ⟨c, h⟩
  · have h := Option.some.inj h
    subst h
    exact fz1
  · obtain ⟨z2, hz2, h⟩ := v_bdS h
    have fz2 : v_fr [50, 51] [(49, 0), (49, 1), (49, 2), (49, 3), (49, 4), (49, 5)] M z2.2 := v_frt (by simp) (by simp) fz1 (fr_X11_gatherBinding hz2)
    by_cases c0 : x2 = (0 : Int32)
    · rw [if_pos c0] at h
      have h := Option.some.inj h
      subst h
      exact fz2
    · rw [if_neg c0] at h
      by_cases c1 : x2 = (1 : Int32)
      · rw [if_pos c1] at h
        have h := Option.some.inj h
        subst h
        exact fz2
      · rw [if_neg c1] at h
        by_cases c2 : x2 = (2 : Int32)
        · rw [if_pos c2] at h
          obtain ⟨z3, hz3, h⟩ := v_bdS h
          have fz3 : v_fr [50, 51] [(49, 0), (49, 1), (49, 2), (49, 3), (49, 4), (49, 5)] M z3.2 := v_frt (by simp) (by simp) fz2 (fr_X0_heldForce hz3)
          have h := Option.some.inj h
          subst h
          exact fz3
        · rw [if_neg c2] at h
          by_cases c3 : x2 = (3 : Int32)
          · rw [if_pos c3] at h
            have h := Option.some.inj h
            subst h
            exact fz2
          · rw [if_neg c3] at h
            by_cases c4 : x2 = (4 : Int32)
            · rw [if_pos c4] at h
              rcases v_iteS h with ⟨c, h⟩ | ⟨c, h⟩
              · rcases v_iteS h with ⟨c, h⟩ | ⟨c, h⟩
                · obtain ⟨z4, hz4, h⟩ := v_bdS h
                  have fz4 : v_fr [50, 51] [(49, 0), (49, 1), (49, 2), (49, 3), (49, 4), (49, 5)] M z4.2 := v_frt (by simp) (by simp) fz2 (fr_X11_asNumber hz4)
                  have h := Option.some.inj h
                  subst h
                  exact fz4
                · exact v_frT fz2 (fw_X11_bound_L104 h)
              · exact v_frT fz2 (fw_X11_bound_L104 h)
            · rw [if_neg c4] at h
              have h := Option.some.inj h
              subst h
              exact fz2
