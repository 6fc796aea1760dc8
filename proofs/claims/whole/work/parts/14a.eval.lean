/-! orders: code, and what it comes to -/
abbrev Op : Type := Nat × Nat
def cod (o : Op) : Int32 := if o.1 = 0 then nI o.2 else if o.1 = 1 then -1 - nI o.2 else if o.1 = 9 then -8 else if o.1 = 2 then -9 else if o.1 = 3 then -10 else if o.1 = 4 then -11 else if o.1 = 5 then -12 else if o.1 = 6 then -13 else if o.1 = 7 then -14 else if o.1 = 8 then -15 else if o.1 = 10 then -16 else -17
def bth (j : Nat) (a b : Int) : Int := if j = 2 then a + b else if j = 3 then a - b else if j = 4 then (if a < b then 1 else 0) else if j = 5 then (if a ≤ b then 1 else 0) else if j = 6 then (if a = b then 1 else 0) else if j = 7 then (if b ≤ a then 1 else 0) else if j = 8 then (if b < a then 1 else 0) else if j = 10 then (if a = 1 ∧ b = 1 then 1 else 0) else (if a = 1 ∨ b = 1 then 1 else 0)
/-- may two values be joined so -/
def mayJ (j : Nat) (a b : Int) : Prop := ((j = 2 ∨ j = 3) ∧ -100000000 ≤ bth j a b ∧ bth j a b ≤ 100000000) ∨ (4 ≤ j ∧ j ≤ 8) ∨ ((j = 10 ∨ j = 11) ∧ (a = 0 ∨ a = 1) ∧ (b = 0 ∨ b = 1))
/-- one sign: what it makes of the stack -/
def stp (F : Nat → Int) (o : Op) (S S' : List Int) : Prop := (o.1 = 0 ∧ S.length < 64 ∧ o.2 ≤ 99999 ∧ S' = (o.2 : Int) :: S) ∨ (o.1 = 1 ∧ S.length < 64 ∧ o.2 < 7 ∧ S' = F o.2 :: S) ∨ (o.1 = 9 ∧ ∃ a R, S = a :: R ∧ (a = 0 ∨ a = 1) ∧ S' = (1 - a) :: R) ∨ (o.1 ≠ 0 ∧ o.1 ≠ 1 ∧ o.1 ≠ 9 ∧ ∃ a b R, S = b :: a :: R ∧ mayJ o.1 a b ∧ S' = bth o.1 a b :: R)
def run (F : Nat → Int) : List Op → List Int → List Int → Prop
  | [], S, S' => S' = S
  | o :: L, S, S' => ∃ R, stp F o S R ∧ run F L R S'
theorem run_a {F : Nat → Int} : ∀ {L K : List Op} {S R S' : List Int}, run F L S R → run F K R S' → run F (L ++ K) S S' := by
  intro L
  induction L with
  | nil => intro K S R S' h1 h2; rw [show R = S from h1] at h2; exact h2
  | cons o L ih =>
    intro K S R S' h1 h2
    obtain ⟨Q, a, b⟩ := h1
    exact ⟨Q, a, ih b h2⟩
def stI (G : Nat → Int32) : List Int → Prop
  | [] => True
  | v :: S => (G S.length).toInt = v ∧ stI G S
def stL (G : Nat → Int64) : List Int → Prop
  | [] => True
  | v :: S => (G S.length).toInt = v ∧ stL G S
theorem stI_u {G G' : Nat → Int32} : ∀ S : List Int, stI G S → (∀ i, i < S.length → G' i = G i) → stI G' S := by
  intro S
  induction S with
  | nil => intro _ _; trivial
  | cons v S ih =>
    intro h e
    rw [List.length_cons] at e
    exact ⟨by rw [e _ (by omega)]; exact h.1, ih h.2 (fun i hi => e i (by omega))⟩
theorem stL_u {G G' : Nat → Int64} : ∀ S : List Int, stL G S → (∀ i, i < S.length → G' i = G i) → stL G' S := by
  intro S
  induction S with
  | nil => intro _ _; trivial
  | cons v S ih =>
    intro h e
    rw [List.length_cons] at e
    exact ⟨by rw [e _ (by omega)]; exact h.1, ih h.2 (fun i hi => e i (by omega))⟩
theorem i_and1 {x y : Int32} {a b : Int} (hx : x.toInt = a) (hy : y.toInt = b) (ha : a = 0 ∨ a = 1) (hb : b = 0 ∨ b = 1) : (x &&& y).toInt = (if a = 1 ∧ b = 1 then 1 else 0) ∧ (x ||| y).toInt = (if a = 1 ∨ b = 1 then 1 else 0) := by
  have e0 : ∀ {z : Int32}, z.toInt = 0 → z = 0 := fun {z} h => i_eq.mpr (by rw [h]; rfl)
  have e1 : ∀ {z : Int32}, z.toInt = 1 → z = 1 := fun {z} h => i_eq.mpr (by rw [h]; rfl)
  rcases ha with ha | ha <;> rcases hb with hb | hb <;> subst ha <;> subst hb
  · rw [e0 hx, e0 hy]; exact ⟨rfl, rfl⟩
  · rw [e0 hx, e1 hy]; exact ⟨rfl, rfl⟩
  · rw [e1 hx, e0 hy]; exact ⟨rfl, rfl⟩
  · rw [e1 hx, e1 hy]; exact ⟨rfl, rfl⟩
theorem l_and1 {x y : Int64} {a b : Int} (hx : x.toInt = a) (hy : y.toInt = b) (ha : a = 0 ∨ a = 1) (hb : b = 0 ∨ b = 1) : (x &&& y).toInt = (if a = 1 ∧ b = 1 then 1 else 0) ∧ (x ||| y).toInt = (if a = 1 ∨ b = 1 then 1 else 0) := by
  have e0 : ∀ {z : Int64}, z.toInt = 0 → z = 0 := fun {z} h => l_eq.mpr (by rw [h]; rfl)
  have e1 : ∀ {z : Int64}, z.toInt = 1 → z = 1 := fun {z} h => l_eq.mpr (by rw [h]; rfl)
  rcases ha with ha | ha <;> rcases hb with hb | hb <;> subst ha <;> subst hb
  · rw [e0 hx, e0 hy]; exact ⟨rfl, rfl⟩
  · rw [e0 hx, e1 hy]; exact ⟨rfl, rfl⟩
  · rw [e1 hx, e0 hy]; exact ⟨rfl, rfl⟩
  · rw [e1 hx, e1 hy]; exact ⟨rfl, rfl⟩
theorem j_cases {j : Nat} {a b : Int} (h : mayJ j a b) : j = 2 ∨ j = 3 ∨ j = 4 ∨ j = 5 ∨ j = 6 ∨ j = 7 ∨ j = 8 ∨ j = 10 ∨ j = 11 := by
  rcases h with ⟨h, _⟩ | ⟨h1, h2⟩ | ⟨h, _⟩ <;> omega
theorem e_joined (N : Nat) {j v : Nat} {x y : Int32} {a b : Int} (hx : x.toInt = a) (hy : y.toInt = b) (h : mayJ j a b) (M : v_M) : ∃ r : Int32, f_X0_joined N (cod (j, v)) x y M = some (r, M) ∧ r.toInt = bth j a b := by
  have lt : (x < y) ↔ a < b := by rw [i_lt, hx, hy]
  have le : (x ≤ y) ↔ a ≤ b := by rw [i_le, hx, hy]
  have lt' : (y < x) ↔ b < a := by rw [i_lt, hx, hy]
  have le' : (y ≤ x) ↔ b ≤ a := by rw [i_le, hx, hy]
  have eq' : (x = y) ↔ a = b := by rw [i_eq, hx, hy]
  unfold f_X0_joined f_X11_asNumber
  rcases j_cases h with rfl | rfl | rfl | rfl | rfl | rfl | rfl | rfl | rfl
  · rcases h with ⟨-, h1, h2⟩ | h | h
    · have e : (x + y).toInt = a + b := by
        simp only [bth, if_true] at h1 h2
        rw [Jvm.Kit.i32_add (by rw [hx, hy]; omega) (by rw [hx, hy]; omega), hx, hy]
      exact ⟨x + y, rfl, e⟩
    · omega
    · omega
  · rcases h with ⟨-, h1, h2⟩ | h | h
    · have e : (x - y).toInt = a - b := by
        simp [bth] at h1 h2
        rw [Jvm.Kit.i32_sub (by rw [hx, hy]; omega) (by rw [hx, hy]; omega), hx, hy]
      exact ⟨x - y, rfl, e⟩
    · omega
    · omega
  · simp only [cod, bth]
    by_cases z : a < b
    · exact ⟨1, by simp [z, le'], by simp [z]⟩
    · exact ⟨0, by simp [z, le'], by simp [z]⟩
  · simp only [cod, bth]
    by_cases z : a ≤ b
    · exact ⟨1, by simp [z, lt'], by simp [z]⟩
    · exact ⟨0, by simp [z, lt'], by simp [z]⟩
  · simp only [cod, bth]
    by_cases z : a = b
    · exact ⟨1, by simp [z, eq'], by simp [z]⟩
    · exact ⟨0, by simp [z, eq'], by simp [z]⟩
  · simp only [cod, bth]
    by_cases z : b ≤ a
    · exact ⟨1, by simp [z, lt], by simp [z]⟩
    · exact ⟨0, by simp [z, lt], by simp [z]⟩
  · simp only [cod, bth]
    by_cases z : b < a
    · exact ⟨1, by simp [z, le], by simp [z]⟩
    · exact ⟨0, by simp [z, le], by simp [z]⟩
  · rcases h with h | h | ⟨-, h1, h2⟩
    · omega
    · omega
    · exact ⟨x &&& y, rfl, by rw [(i_and1 hx hy h1 h2).1]; rfl⟩
  · rcases h with h | h | ⟨-, h1, h2⟩
    · omega
    · omega
    · exact ⟨x ||| y, rfl, by rw [(i_and1 hx hy h1 h2).2]; rfl⟩
