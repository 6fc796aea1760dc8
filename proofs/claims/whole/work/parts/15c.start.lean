/-! what holds at the start -/
set_option maxRecDepth 100000 in
theorem zM_59 (w : Nat) (h : w < 200) : z_M.1 59 w = -1 := by
  show (if w < 200 then (-1 : Int32) else _) = -1
  rw [if_pos h]
set_option maxRecDepth 100000 in
theorem zM_76 (j : Nat) (h : j < 480) : z_M.1 76 j = 10000 := by
  show (if j < 480 then (10000 : Int32) else _) = 10000
  rw [if_pos h]
set_option maxRecDepth 100000 in
theorem zM_143 (j : Nat) (h : j < 480) : z_M.1 143 j = -1 := by
  show (if j < 480 then (-1 : Int32) else _) = -1
  rw [if_pos h]
set_option maxRecDepth 100000 in
theorem zB_48 (i : Nat) : z_B.2.1 48 i = none := rfl
set_option maxRecDepth 100000 in
theorem zB_77 (i : Nat) : z_B.2.1 77 i = none := rfl
set_option maxRecDepth 100000 in
theorem zB_or : v_Or z_B.1 z_B.2.1 41 := by
  refine ⟨fun j s hj => ?_, fun j r hj => ?_⟩
  · rw [z_Bsh]
    match j, hj with
    | 0, hj => exact hj
    | 1, hj => exact hj
    | 2, hj => exact hj
    | 3, hj => exact hj
    | 4, hj => exact hj
    | 5, hj => exact hj
    | 6, hj => exact hj
    | j + 7, hj => exact nomatch hj
  · match j, hj with
    | 4, hj => rw [← Option.some.inj hj]; rfl
    | 5, hj => rw [← Option.some.inj hj]; rfl
    | 6, hj => rw [← Option.some.inj hj]; rfl
    | 7, hj => rw [← Option.some.inj hj]; rfl
    | 8, hj => rw [← Option.some.inj hj]; rfl
    | 9, hj => rw [← Option.some.inj hj]; rfl
    | 0, hj => exact nomatch hj
    | 1, hj => exact nomatch hj
    | 2, hj => exact nomatch hj
    | 3, hj => exact nomatch hj
    | j + 10, hj => exact nomatch hj
theorem bt00 {a b : Int} (h1 : a ≤ 0) (h2 : 0 ≤ b) : v_bt 0 a b := ⟨h1, h2⟩
set_option maxRecDepth 100000 in
theorem start_II : II z_B.1 z_B.2.1 z_M := by
  refine ⟨z_Blay, ⟨fun i q h => by rw [zB_48] at h; exact (nomatch h), fun i q h => by rw [zB_77] at h; exact (nomatch h)⟩, 41, zB_or, rfl, Or.inl rfl, 0, 0, 0, 0, 0, 0, 0, 0, ⟨0, by omega, rfl, rfl⟩, ⟨by omega, rfl, rfl, fun i hi => absurd hi (by omega), fun i _ _ => rfl⟩, ⟨rfl, rfl, ⟨by omega, fun i _ _ => ⟨rfl, rfl, rfl, rfl⟩, fun i _ => ⟨bt00 (by decide) (by decide), bt00 (by decide) (by decide), bt00 (by decide) (by decide), bt00 (by decide) (by decide), fun _ => rfl⟩, fun m _ => ⟨fun _ => ⟨rfl, rfl⟩, bt00 (by decide) (by decide)⟩⟩, fun i hi => absurd hi (by omega), fun m hm => absurd hm (by omega)⟩, ⟨by omega, rfl, rfl, fun i hi => absurd hi (by omega)⟩, ⟨by omega, rfl, rfl, fun i hi => absurd hi (by omega)⟩, ⟨by omega, rfl, rfl, fun i hi => absurd hi (by omega), chn0 zM_59⟩, ⟨by omega, rfl, rfl, fun i hi => absurd hi (by omega)⟩, ⟨by omega, rfl, rfl, fun i hi => absurd hi (by omega), fun j hj => Or.inl ⟨zM_76 j hj, zM_143 j hj⟩⟩, ⟨fun k _ => Or.inl ⟨zB_77 k, rfl⟩, fun k k' q _ _ e1 _ => by rw [zB_77] at e1; exact (nomatch e1)⟩, ⟨⟨by omega, rfl, rfl⟩, fun o h => absurd h (by omega), fun o o' q h => absurd h (by omega), fun o q h => absurd h (by omega)⟩⟩
theorem start_whole (hOrd : OrdOK) : v_Good v_Nf II ∧ II z_B.1 z_B.2.1 z_M := ⟨good_of hOrd, start_II⟩
