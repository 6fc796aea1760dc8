/-! cheapest: is there a pair; coins; bits -/
def nou (U : Nat → Nat → Bool) (most x y : Nat) : Prop := ∀ x' y', x' ≤ most → y' ≤ most → (x < x' ∨ (x' = x ∧ y ≤ y')) → U x' y' = false
def fnd (U : Nat → Nat → Bool) (most : Nat) (r : Int32) : Prop := ∃ x y : Nat, x ≤ most ∧ y ≤ most ∧ r = nI (16 * x + y) ∧ U x y = true
theorem nou_s {U : Nat → Nat → Bool} {most x y : Nat} (h : nou U most x (y + 1)) (hu : U x y = false) : nou U most x y := fun x' y' a b c => by
  by_cases q : x' = x ∧ y' = y
  · rw [q.1, q.2]; exact hu
  · exact h x' y' a b (by omega)
theorem nou_e {U : Nat → Nat → Bool} {most x : Nat} (h : nou U most (x + 1) 0) : nou U most x (most + 1) := fun x' y' a b c => h x' y' a b (by omega)
theorem e_up1 {N : Nat} (hN : 2000 ≤ N) {D : Dw} {kd st mk : Nat → Int32} {g w e : Nat → Nat} {np a b most x : Nat} (x5 x6 : Int32) (hD : DwB D np) (hK : KdB kd np) (hB : DoB np g w e) (ha : a < np) (hb : b < np) (hm : most ≤ 15) (hx : x ≤ most) (K : Int32 → Int32 → Int32 → Int32 → Int32 → Int32 → v_M → Option (Int32 × v_M)) (ho : ∀ A, TrC A D kd st mk g w e np a b → ∃ (r : Int32) (A' : v_M), K (nI a) (nI b) (nI most) x5 x6 (nI (x + 1)) A = some (r, A') ∧ v_fr [22, 25, 26, 27] [] A A' ∧ ((r = -1 ∧ nou (unq D kd st mk g w e np a b x5 x6) most (x + 1) 0) ∨ fnd (unq D kd st mk g w e np a b x5 x6) most r)) : ∀ (s y f : Nat) (A : v_M), y + s = most + 1 → s < f → TrC A D kd st mk g w e np a b → ∃ (r : Int32) (A' : v_M), f_X11_unlikePair_L36 N K f (nI a) (nI b) (nI most) x5 x6 (nI x) (nI y) A = some (r, A') ∧ v_fr [22, 25, 26, 27] [] A A' ∧ ((r = -1 ∧ nou (unq D kd st mk g w e np a b x5 x6) most x y) ∨ fnd (unq D kd st mk g w e np a b x5 x6) most r) := by
  intro s
  induction s with
  | zero =>
    intro y f A hy hf hA
    obtain ⟨f, rfl⟩ : ∃ q, f = q + 1 := ⟨f - 1, by omega⟩
    obtain ⟨r, A', p1, p2, p3⟩ := ho A hA
    rw [f_X11_unlikePair_L36, if_pos (nI_lt (by omega) (by omega)), nI_1]
    refine ⟨r, A', p1, p2, ?_⟩
    rcases p3 with ⟨q1, q2⟩ | q
    · exact Or.inl ⟨q1, by rw [show y = most + 1 by omega]; exact nou_e q2⟩
    · exact Or.inr q
  | succ s ih =>
    intro y f A hy hf hA
    obtain ⟨f, rfl⟩ : ∃ q, f = q + 1 := ⟨f - 1, by omega⟩
    have ep : (16 : Int32) * nI x + nI y = nI (16 * x + y) := by rw [show (16 : Int32) = nI 16 from rfl, nI_mul, nI_add]
    obtain ⟨A', p1, p2, p3⟩ := e_at1 (show 100 ≤ N by omega) x5 x6 hD hK hB ha hb (show x ≤ 15 by omega) (show y ≤ 15 by omega) hA
    rw [f_X11_unlikePair_L36, if_neg (nI_nlt (by omega) (by omega)), ep, p1, Option.bind_some, v01_0, nI_1]
    by_cases u : unq D kd st mk g w e np a b x5 x6 x y = true
    · rw [if_pos u]
      exact ⟨_, A', rfl, p2, Or.inr ⟨x, y, hx, by omega, rfl, u⟩⟩
    · rw [if_neg u]
      obtain ⟨r, A'', s1, s2, s3⟩ := ih (y + 1) f A' (by omega) (by omega) p3
      refine ⟨r, A'', s1, v_frT p2 s2, ?_⟩
      rcases s3 with ⟨q1, q2⟩ | q
      · exact Or.inl ⟨q1, nou_s q2 (Bool.eq_false_iff.mpr u)⟩
      · exact Or.inr q
theorem e_up2 {N : Nat} (hN : 2000 ≤ N) {D : Dw} {kd st mk : Nat → Int32} {g w e : Nat → Nat} {np a b most : Nat} (x5 x6 : Int32) (hD : DwB D np) (hK : KdB kd np) (hB : DoB np g w e) (ha : a < np) (hb : b < np) (hm : most ≤ 15) : ∀ (s x f : Nat) (A : v_M), x + s = most + 1 → s < f → TrC A D kd st mk g w e np a b → ∃ (r : Int32) (A' : v_M), f_X11_unlikePair_L27 N f (nI a) (nI b) (nI most) x5 x6 (nI x) A = some (r, A') ∧ v_fr [22, 25, 26, 27] [] A A' ∧ ((r = -1 ∧ nou (unq D kd st mk g w e np a b x5 x6) most x 0) ∨ fnd (unq D kd st mk g w e np a b x5 x6) most r) := by
  intro s
  induction s with
  | zero =>
    intro x f A hx hf hA
    obtain ⟨f, rfl⟩ : ∃ q, f = q + 1 := ⟨f - 1, by omega⟩
    rw [f_X11_unlikePair_L27, if_pos (nI_lt (by omega) (by omega))]
    exact ⟨_, A, rfl, v_frR, Or.inl ⟨rfl, fun x' y' p q r => absurd r (by omega)⟩⟩
  | succ s ih =>
    intro x f A hx hf hA
    obtain ⟨f, rfl⟩ : ∃ q, f = q + 1 := ⟨f - 1, by omega⟩
    rw [f_X11_unlikePair_L27, if_neg (nI_nlt (by omega) (by omega))]
    exact e_up1 hN x5 x6 hD hK hB ha hb hm (show x ≤ most by omega) (f_X11_unlikePair_L27 N f) (fun A hA => ih (x + 1) f A (by omega) (by omega) hA) (most + 1) 0 N A (by omega) (by omega) hA
theorem e_up {N : Nat} (hN : 2000 ≤ N) {D : Dw} {kd st mk : Nat → Int32} {g w e : Nat → Nat} {np a b most : Nat} (x5 x6 : Int32) (hD : DwB D np) (hK : KdB kd np) (hB : DoB np g w e) (ha : a < np) (hb : b < np) (hm : most ≤ 15) {lk : Int32} (hl : lk = -1 ∨ ∃ x y : Nat, x ≤ most ∧ y ≤ most ∧ lk = nI (16 * x + y)) {A : v_M} (hA : TrC A D kd st mk g w e np a b) : ∃ (r : Int32) (A' : v_M), f_X11_unlikePair N (nI a) (nI b) (nI most) x5 x6 lk A = some (r, A') ∧ v_fr [22, 25, 26, 27] [] A A' ∧ ((r = -1 ∧ nou (unq D kd st mk g w e np a b x5 x6) most 0 0) ∨ fnd (unq D kd st mk g w e np a b x5 x6) most r) := by
  unfold f_X11_unlikePair f_X11_unlikePair_L24
  by_cases z : lk = -1
  · rw [if_pos z]
    exact e_up2 hN x5 x6 hD hK hB ha hb hm (most + 1) 0 N A (by omega) (by omega) hA
  · rw [if_neg z]
    rcases hl with q | ⟨x, y, hx, hy, rfl⟩
    · exact absurd q z
    · obtain ⟨A', p1, p2, p3⟩ := e_at1 (show 100 ≤ N by omega) x5 x6 hD hK hB ha hb (show x ≤ 15 by omega) (show y ≤ 15 by omega) hA
      rw [p1, Option.bind_some, v01_0]
      by_cases u : unq D kd st mk g w e np a b x5 x6 x y = true
      · rw [if_pos u]
        exact ⟨_, A', rfl, p2, Or.inr ⟨x, y, hx, hy, rfl, u⟩⟩
      · rw [if_neg u]
        obtain ⟨r, A'', s1, s2, s3⟩ := e_up2 hN x5 x6 hD hK hB ha hb hm (most + 1) 0 N A' (by omega) (by omega) p3
        exact ⟨r, A'', s1, v_frT p2 s2, s3⟩
theorem e_uk1 {N : Nat} (hN : 2000 ≤ N) {D : Dw} {kd st mk : Nat → Int32} {g w e : Nat → Nat} {np a b most x : Nat} (x5 x6 : Int32) (hD : DwB D np) (hK : KdB kd np) (hB : DoB np g w e) (ha : a < np) (hb : b < np) (hm : most ≤ 15) (hx : x ≤ most) (K : Int32 → Int32 → Int32 → Int32 → Int32 → Int32 → Int32 → Int32 → v_M → Option (Int32 × v_M)) (ho : ∀ A, TrR A D kd st mk g w e np a b → ∃ (r : Int32) (A' : v_M), K (nI a) (nI b) (nI most) x5 x6 0 0 (nI (x + 1)) A = some (r, A') ∧ v_fr [97, 99, 100] [] A A' ∧ ((r = -1 ∧ nou (unq D kd st mk g w e np a b x5 x6) most (x + 1) 0) ∨ fnd (unq D kd st mk g w e np a b x5 x6) most r)) : ∀ (s y f : Nat) (A : v_M), y + s = most + 1 → s < f → TrR A D kd st mk g w e np a b → ∃ (r : Int32) (A' : v_M), f_X12_unlikes_L27 N K f (nI a) (nI b) (nI most) x5 x6 0 0 (nI x) (nI y) A = some (r, A') ∧ v_fr [97, 99, 100] [] A A' ∧ ((r = -1 ∧ nou (unq D kd st mk g w e np a b x5 x6) most x y) ∨ fnd (unq D kd st mk g w e np a b x5 x6) most r) := by
  intro s
  have h24 := hD.1
  induction s with
  | zero =>
    intro y f A hy hf hA
    obtain ⟨f, rfl⟩ : ∃ q, f = q + 1 := ⟨f - 1, by omega⟩
    obtain ⟨r, A', p1, p2, p3⟩ := ho A hA
    rw [f_X12_unlikes_L27, if_pos (nI_lt (by omega) (by omega)), nI_1]
    refine ⟨r, A', p1, p2, ?_⟩
    rcases p3 with ⟨q1, q2⟩ | q
    · exact Or.inl ⟨q1, by rw [show y = most + 1 by omega]; exact nou_e q2⟩
    · exact Or.inr q
  | succ s ih =>
    intro y f A hy hf hA
    obtain ⟨f, rfl⟩ : ∃ q, f = q + 1 := ⟨f - 1, by omega⟩
    have ep : (16 : Int32) * nI x + nI y = nI (16 * x + y) := by rw [show (16 : Int32) = nI 16 from rfl, nI_mul, nI_add]
    obtain ⟨B', B'', q1, q2, q3, q4⟩ := e_at2 hN x5 x6 hD hK hB ha (show x ≤ 15 by omega) (show y ≤ 15 by omega) hA
    rw [f_X12_unlikes_L27, if_neg (nI_nlt (by omega) (by omega))]
    simp only [v_ckT, v_letE, v_ibN (show a < 24 by omega) (show 24 < 2 ^ 31 by omega), nI_clamp (show a < 2 ^ 31 by omega), v_ibN (show b < 24 by omega) (show 24 < 2 ^ 31 by omega), nI_clamp (show b < 2 ^ 31 by omega)]
    rw [q1, Option.bind_some, q2, Option.bind_some, v01_0, ep]
    by_cases u : unq D kd st mk g w e np a b x5 x6 x y = true
    · rw [if_pos u]
      first | rw [if_pos rfl] | rw [if_pos trivial]
      exact ⟨_, B'', rfl, q3, Or.inr ⟨x, y, hx, by omega, rfl, u⟩⟩
    · rw [if_neg u, f_X12_unlikes_L88, nI_1]
      obtain ⟨r, A'', s1, s2, s3⟩ := ih (y + 1) f B'' (by omega) (by omega) q4
      refine ⟨r, A'', s1, v_frT q3 s2, ?_⟩
      rcases s3 with ⟨q1, q2⟩ | q
      · exact Or.inl ⟨q1, nou_s q2 (Bool.eq_false_iff.mpr u)⟩
      · exact Or.inr q
theorem e_uk2 {N : Nat} (hN : 2000 ≤ N) {D : Dw} {kd st mk : Nat → Int32} {g w e : Nat → Nat} {np a b most : Nat} (x5 x6 : Int32) (hD : DwB D np) (hK : KdB kd np) (hB : DoB np g w e) (ha : a < np) (hb : b < np) (hm : most ≤ 15) : ∀ (s x f : Nat) (A : v_M), x + s = most + 1 → s < f → TrR A D kd st mk g w e np a b → ∃ (r : Int32) (A' : v_M), f_X12_unlikes_L17 N f (nI a) (nI b) (nI most) x5 x6 0 0 (nI x) A = some (r, A') ∧ v_fr [97, 99, 100] [] A A' ∧ ((r = -1 ∧ nou (unq D kd st mk g w e np a b x5 x6) most x 0) ∨ fnd (unq D kd st mk g w e np a b x5 x6) most r) := by
  intro s
  induction s with
  | zero =>
    intro x f A hx hf hA
    obtain ⟨f, rfl⟩ : ∃ q, f = q + 1 := ⟨f - 1, by omega⟩
    rw [f_X12_unlikes_L17, if_pos (nI_lt (by omega) (by omega)), if_neg (show ¬ (0 : Int32) = -1 by decide)]
    exact ⟨_, A, rfl, v_frR, Or.inl ⟨rfl, fun x' y' p q r => absurd r (by omega)⟩⟩
  | succ s ih =>
    intro x f A hx hf hA
    obtain ⟨f, rfl⟩ : ∃ q, f = q + 1 := ⟨f - 1, by omega⟩
    rw [f_X12_unlikes_L17, if_neg (nI_nlt (by omega) (by omega))]
    exact e_uk1 hN x5 x6 hD hK hB ha hb hm (show x ≤ most by omega) (f_X12_unlikes_L17 N f) (fun A hA => ih (x + 1) f A (by omega) (by omega) hA) (most + 1) 0 N A (by omega) (by omega) hA
theorem alt_same {U : Nat → Nat → Bool} {most : Nat} {r r' : Int32} (hm : most ≤ 15) (h : (r = -1 ∧ nou U most 0 0) ∨ fnd U most r) (h' : (r' = -1 ∧ nou U most 0 0) ∨ fnd U most r') : (r = -1) ↔ (r' = -1) := by
  have no : ∀ {q : Int32}, fnd U most q → ¬ q = -1 := fun {q} ⟨x, y, hx, hy, e, _⟩ z => by
    rw [e] at z
    exact nI_nm1 (by omega) z
  have cl : ∀ {q : Int32}, nou U most 0 0 → ¬ fnd U most q := fun {q} n ⟨x, y, hx, hy, _, u⟩ => by
    rw [n x y hx hy (by omega)] at u
    exact absurd u (by decide)
  rcases h with ⟨a, b⟩ | a
  · rcases h' with ⟨c, d⟩ | c
    · exact ⟨fun _ => c, fun _ => a⟩
    · exact absurd c (cl b)
  · rcases h' with ⟨c, d⟩ | c
    · exact absurd a (cl d)
    · exact ⟨fun z => absurd z (no a), fun z => absurd z (no c)⟩
def cso (o : Int32) (co : Nat → Int32) : Nat → Nat → Int32 → Int32
  | 0, _, r => r
  | s + 1, c, r => cso o co s (c + 1) (r + (if ((o >>> (nI c &&& 31)) &&& 1) = 1 then co c else 0))
theorem and1 (x : Int32) : x &&& 1 = 0 ∨ x &&& 1 = 1 := by
  have : (x.toBitVec &&& 1#32) = 0#32 ∨ (x.toBitVec &&& 1#32) = 1#32 := by
    generalize x.toBitVec = b
    have h : (b &&& 1#32).toNat = b.toNat % 2 := by
      rw [BitVec.toNat_and]
      exact Nat.and_one_is_mod _
    rcases Nat.mod_two_eq_zero_or_one b.toNat with q | q
    · left
      exact BitVec.eq_of_toNat_eq (by rw [h, q]; rfl)
    · right
      exact BitVec.eq_of_toNat_eq (by rw [h, q]; rfl)
  rcases this with h | h
  · left
    apply Int32.toBitVec_inj.mp
    rw [Int32.toBitVec_and]
    exact h
  · right
    apply Int32.toBitVec_inj.mp
    rw [Int32.toBitVec_and]
    exact h
theorem and1m (x c : Int32) : (x &&& 1) * c = if (x &&& 1) = 1 then c else 0 := by
  rcases and1 x with h | h
  · rw [h, if_neg (by decide), Int32.zero_mul]
  · rw [h, if_pos rfl, Int32.one_mul]
