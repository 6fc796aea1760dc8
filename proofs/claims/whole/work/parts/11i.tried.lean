/-! tried: both loops in step -/
def alk2 (c d : v_M → Option (Int32 × v_M)) (I J : v_M → Prop) (W V : List Nat) : Prop := ∃ r : Int32, (∀ A, I A → ∃ A' : v_M, c A = some (r, A') ∧ v_fr W [] A A' ∧ I A') ∧ (∀ B, J B → ∃ B' : v_M, d B = some (r, B') ∧ v_fr V [] B B' ∧ J B')
theorem e_tri1 {N : Nat} (hN : 2000 ≤ N) {D : Dw} {kd st mk : Nat → Int32} {g w e : Nat → Nat} {np a b most x : Nat} (x5 x6 x7 : Int32) (hD : DwB D np) (hK : KdB kd np) (hB : DoB np g w e) (ha : a < np) (hb : b < np) (hm : most ≤ 15) (hx : x ≤ most) (K K' : Int32 → Int32 → Int32 → Int32 → Int32 → Int32 → Int32 → Int32 → v_M → Option (Int32 × v_M)) (ho : ∀ n : Int32, alk2 (K (nI a) (nI b) (nI most) x5 x6 x7 n (nI (x + 1))) (K' (nI a) (nI b) (nI most) x5 x6 x7 n (nI (x + 1))) (fun A => TrC A D kd st mk g w e np a b) (fun A => TrR A D kd st mk g w e np a b) [22, 25, 26, 27] [97, 99, 100]) : ∀ (s y f f' : Nat) (n : Int32), y + s = most + 1 → s < f → s < f' → alk2 (f_X11_tried_L56 N K f (nI a) (nI b) (nI most) x5 x6 x7 n (nI x) (nI y)) (f_X12_unlikes_L27 N K' f' (nI a) (nI b) (nI most) x5 x6 x7 n (nI x) (nI y)) (fun A => TrC A D kd st mk g w e np a b) (fun A => TrR A D kd st mk g w e np a b) [22, 25, 26, 27] [97, 99, 100] := by
  intro s
  have h24 := hD.1
  induction s with
  | zero =>
    intro y f f' n hy hf hf'
    obtain ⟨f, rfl⟩ : ∃ q, f = q + 1 := ⟨f - 1, by omega⟩
    obtain ⟨f', rfl⟩ : ∃ q, f' = q + 1 := ⟨f' - 1, by omega⟩
    obtain ⟨r, h1, h2⟩ := ho n
    refine ⟨r, fun A hA => ?_, fun B hB' => ?_⟩
    · rw [f_X11_tried_L56, if_pos (nI_lt (by omega) (by omega)), nI_1]
      exact h1 A hA
    · rw [f_X12_unlikes_L27, if_pos (nI_lt (by omega) (by omega)), nI_1]
      exact h2 B hB'
  | succ s ih =>
    intro y f f' n hy hf hf'
    obtain ⟨f, rfl⟩ : ∃ q, f = q + 1 := ⟨f - 1, by omega⟩
    obtain ⟨f', rfl⟩ : ∃ q, f' = q + 1 := ⟨f' - 1, by omega⟩
    have ep : (16 : Int32) * nI x + nI y = nI (16 * x + y) := by rw [show (16 : Int32) = nI 16 from rfl, nI_mul, nI_add]
    have c1 : ∀ A, TrC A D kd st mk g w e np a b → ∃ A', f_X11_isUnlikeAt N (nI a) (nI b) (nI (16 * x + y)) x5 x6 A = some (v01 (unq D kd st mk g w e np a b x5 x6 x y), A') ∧ v_fr [22, 25, 26, 27] [] A A' ∧ TrC A' D kd st mk g w e np a b := fun A hA => e_at1 (by omega) x5 x6 hD hK hB ha hb (by omega) (by omega) hA
    have c2 := fun (B : v_M) (hB' : TrR B D kd st mk g w e np a b) => e_at2 hN x5 x6 hD hK hB ha (show x ≤ 15 by omega) (show y ≤ 15 by omega) hB'
    generalize unq D kd st mk g w e np a b x5 x6 x y = u at c1 c2
    cases u with
    | false =>
      obtain ⟨r, h1, h2⟩ := ih (y + 1) f f' n (by omega) (by omega) (by omega)
      refine ⟨r, fun A hA => ?_, fun B hB' => ?_⟩
      · obtain ⟨A', p1, p2, p3⟩ := c1 A hA
        obtain ⟨A'', s1, s2, s3⟩ := h1 A' p3
        refine ⟨A'', ?_, v_frT p2 s2, s3⟩
        rw [f_X11_tried_L56, if_neg (nI_nlt (by omega) (by omega)), v_letE, ep, p1, Option.bind_some, v01_0, if_neg (by decide), f_X11_tried_L101, nI_1]
        exact s1
      · obtain ⟨B', B'', q1, q2, q3, q4⟩ := c2 B hB'
        obtain ⟨C, s1, s2, s3⟩ := h2 B'' q4
        refine ⟨C, ?_, v_frT q3 s2, s3⟩
        rw [f_X12_unlikes_L27, if_neg (nI_nlt (by omega) (by omega))]
        simp only [v_ckT, v_letE, v_ibN (show a < 24 by omega) (show 24 < 2 ^ 31 by omega), nI_clamp (show a < 2 ^ 31 by omega), v_ibN (show b < 24 by omega) (show 24 < 2 ^ 31 by omega), nI_clamp (show b < 2 ^ 31 by omega)]
        rw [q1, Option.bind_some, q2, Option.bind_some, v01_0, if_neg (by decide), f_X12_unlikes_L88, nI_1]
        exact s1
    | true =>
      by_cases nk : n = x7
      · refine ⟨nI (16 * x + y), fun A hA => ?_, fun B hB' => ?_⟩
        · obtain ⟨A', p1, p2, p3⟩ := c1 A hA
          refine ⟨A', ?_, p2, p3⟩
          rw [f_X11_tried_L56, if_neg (nI_nlt (by omega) (by omega)), v_letE, ep, p1, Option.bind_some, v01_0, if_pos rfl, if_pos nk]
        · obtain ⟨B', B'', q1, q2, q3, q4⟩ := c2 B hB'
          refine ⟨B'', ?_, q3, q4⟩
          rw [f_X12_unlikes_L27, if_neg (nI_nlt (by omega) (by omega))]
          simp only [v_ckT, v_letE, v_ibN (show a < 24 by omega) (show 24 < 2 ^ 31 by omega), nI_clamp (show a < 2 ^ 31 by omega), v_ibN (show b < 24 by omega) (show 24 < 2 ^ 31 by omega), nI_clamp (show b < 2 ^ 31 by omega)]
          rw [q1, Option.bind_some, q2, Option.bind_some, v01_0, if_pos rfl, if_pos nk, ep]
      · obtain ⟨r, h1, h2⟩ := ih (y + 1) f f' (n + 1) (by omega) (by omega) (by omega)
        refine ⟨r, fun A hA => ?_, fun B hB' => ?_⟩
        · obtain ⟨A', p1, p2, p3⟩ := c1 A hA
          obtain ⟨A'', s1, s2, s3⟩ := h1 A' p3
          refine ⟨A'', ?_, v_frT p2 s2, s3⟩
          rw [f_X11_tried_L56, if_neg (nI_nlt (by omega) (by omega)), v_letE, ep, p1, Option.bind_some, v01_0, if_pos rfl, if_neg nk, f_X11_tried_L101, nI_1]
          exact s1
        · obtain ⟨B', B'', q1, q2, q3, q4⟩ := c2 B hB'
          obtain ⟨C, s1, s2, s3⟩ := h2 B'' q4
          refine ⟨C, ?_, v_frT q3 s2, s3⟩
          rw [f_X12_unlikes_L27, if_neg (nI_nlt (by omega) (by omega))]
          simp only [v_ckT, v_letE, v_ibN (show a < 24 by omega) (show 24 < 2 ^ 31 by omega), nI_clamp (show a < 2 ^ 31 by omega), v_ibN (show b < 24 by omega) (show 24 < 2 ^ 31 by omega), nI_clamp (show b < 2 ^ 31 by omega)]
          rw [q1, Option.bind_some, q2, Option.bind_some, v01_0, if_pos rfl, if_neg nk, f_X12_unlikes_L88, nI_1]
          exact s1
theorem e_tri2 {N : Nat} (hN : 2000 ≤ N) {D : Dw} {kd st mk : Nat → Int32} {g w e : Nat → Nat} {np a b most : Nat} (x5 x6 x7 : Int32) (hD : DwB D np) (hK : KdB kd np) (hB : DoB np g w e) (ha : a < np) (hb : b < np) (hm : most ≤ 15) : ∀ (s x f f' : Nat) (n : Int32), x + s = most + 1 → s < f → s < f' → alk2 (f_X11_tried_L46 N f (nI a) (nI b) (nI most) x5 x6 x7 n (nI x)) (f_X12_unlikes_L17 N f' (nI a) (nI b) (nI most) x5 x6 x7 n (nI x)) (fun A => TrC A D kd st mk g w e np a b) (fun A => TrR A D kd st mk g w e np a b) [22, 25, 26, 27] [97, 99, 100] := by
  intro s
  induction s with
  | zero =>
    intro x f f' n hy hf hf'
    obtain ⟨f, rfl⟩ : ∃ q, f = q + 1 := ⟨f - 1, by omega⟩
    obtain ⟨f', rfl⟩ : ∃ q, f' = q + 1 := ⟨f' - 1, by omega⟩
    refine ⟨if x7 = -1 then n else -1, fun A hA => ⟨A, ?_, v_frR, hA⟩, fun B hB' => ⟨B, ?_, v_frR, hB'⟩⟩
    · rw [f_X11_tried_L46, if_pos (nI_lt (by omega) (by omega))]
      split <;> rfl
    · rw [f_X12_unlikes_L17, if_pos (nI_lt (by omega) (by omega))]
      split <;> rfl
  | succ s ih =>
    intro x f f' n hy hf hf'
    obtain ⟨f, rfl⟩ : ∃ q, f = q + 1 := ⟨f - 1, by omega⟩
    obtain ⟨f', rfl⟩ : ∃ q, f' = q + 1 := ⟨f' - 1, by omega⟩
    obtain ⟨r, h1, h2⟩ := e_tri1 hN x5 x6 x7 hD hK hB ha hb hm (show x ≤ most by omega) (f_X11_tried_L46 N f) (f_X12_unlikes_L17 N f') (fun n => ih (x + 1) f f' n (by omega) (by omega) (by omega)) (most + 1) 0 N N n (by omega) (by omega) (by omega)
    refine ⟨r, fun A hA => ?_, fun B hB' => ?_⟩
    · rw [f_X11_tried_L46, if_neg (nI_nlt (by omega) (by omega))]
      exact h1 A hA
    · rw [f_X12_unlikes_L17, if_neg (nI_nlt (by omega) (by omega))]
      exact h2 B hB'
