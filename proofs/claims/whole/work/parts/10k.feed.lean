/-! feed -/
def cb (x : Int32) (s : Nat) : Int32 := (x.toUInt32 >>> ((nI s).toUInt32 &&& Int32.toUInt32 31)).toInt32 &&& 255
def mb (x : Int32) (s : Nat) : Int32 := vp_nar .byte (x >>> (nI s &&& 31)).toInt8.toInt32
theorem bt_eq8 : ∀ s ∈ [0, 8, 16, 24], ∀ x : Int32, (x >>> (nI s &&& 31)).toInt8 = (cb x s).toInt8 := by
  intro s hs x
  unfold cb
  simp only [List.mem_cons, List.not_mem_nil, or_false] at hs
  rcases hs with rfl | rfl | rfl | rfl <;>
  · apply Int8.toBitVec_inj.mp
    apply BitVec.eq_of_getLsbD_eq
    intro i hi
    have hc : i = 0 ∨ i = 1 ∨ i = 2 ∨ i = 3 ∨ i = 4 ∨ i = 5 ∨ i = 6 ∨ i = 7 := by omega
    rcases hc with rfl | rfl | rfl | rfl | rfl | rfl | rfl | rfl <;> simp [nI, BitVec.getLsbD_signExtend, BitVec.getLsbD_setWidth, BitVec.getLsbD_sshiftRight, BitVec.getElem_signExtend, BitVec.getElem_sshiftRight, BitVec.getElem_ushiftRight, BitVec.getLsbD_ushiftRight]
theorem bt_eq : ∀ s ∈ [0, 8, 16, 24], ∀ x : Int32, mb x s = (cb x s).toInt8.toInt32 := by
  intro s hs x
  unfold mb
  rw [vp_nar_byte, bt_eq8 s hs x]
  generalize (cb x s).toInt8 = y
  simp
theorem cb_bt (x : Int32) (s : Nat) : v_bt (cb x s) 0 255 := by
  unfold cb
  generalize (x.toUInt32 >>> ((nI s).toUInt32 &&& Int32.toUInt32 31)).toInt32 = y
  have h : (y &&& 255).toBitVec.toNat ≤ 255 := by
    rw [Int32.toBitVec_and, BitVec.toNat_and]
    exact Nat.and_le_right
  have e : (y &&& 255).toInt = ((y &&& 255).toBitVec.toNat : Int) := by
    show (y &&& 255).toBitVec.toInt = _
    rw [BitVec.toInt_eq_toNat_cond]
    omega
  unfold v_bt
  omega
theorem e_put9 (N : Nat) (x : Int32) {n : Nat} (hn : n + 4 ≤ 400) (f : Nat) {M : v_M} (e : M.1 36 0 = nI n) : ∃ M' : v_M, f_X9_put_L3 N (f + 5) x 24 M = some (0, M') ∧ v_fr [37] [(36, 0)] M M' ∧ M'.1 36 0 = nI (n + 4) ∧ ∀ i, M'.1 37 i = if i = n + 3 then cb x 0 else if i = n + 2 then cb x 8 else if i = n + 1 then cb x 16 else if i = n then cb x 24 else M.1 37 i := by
  have step : ∀ (g m s : Nat) (A : v_M), m < 400 → s < 32 → A.1 36 0 = nI m → f_X9_put_L3 N (g + 1) x (nI s) A = f_X9_put_L3 N g x (nI s + -8) (v_wr (v_wr A 37 m (cb x s)) 36 0 (nI (m + 1))) := by
    intro g m s A hm hs hA
    rw [f_X9_put_L3]
    rw [if_neg (nI_pos (by omega)), hA, if_neg (show ¬ (400 : Int32) ≤ nI m from nI_ge (b := 400) hm (by omega))]
    simp only [v_ibN hm (show 400 < 2 ^ 31 by omega), v_ckT, v_letE, nI_clamp (show m < 2 ^ 31 by omega), v_rdn, ne_eq, Nat.reduceEqDiff, not_false_eq_true, hA, nI_1]
    rfl
  rw [show (24 : Int32) = nI 24 from rfl, step (f + 4) n 24 M (by omega) (by omega) e, show nI 24 + -8 = nI 16 from rfl, step (f + 3) (n + 1) 16 _ (by omega) (by omega) (by rw [v_rd, if_pos ⟨rfl, rfl⟩]), show nI 16 + -8 = nI 8 from rfl, step (f + 2) (n + 2) 8 _ (by omega) (by omega) (by rw [v_rd, if_pos ⟨rfl, rfl⟩]), show nI 8 + -8 = nI 0 from rfl, step (f + 1) (n + 3) 0 _ (by omega) (by omega) (by rw [v_rd, if_pos ⟨rfl, rfl⟩])]
  refine ⟨_, by rw [f_X9_put_L3, if_pos (show nI 0 + -8 < 0 by decide)], v_fro (by decide) (v_frw (by decide) (v_fro (by decide) (v_frw (by decide) (v_fro (by decide) (v_frw (by decide) (v_fro (by decide) (v_frw (by decide) v_frR))))))), by rw [v_rd, if_pos ⟨rfl, rfl⟩], fun i => ?_⟩
  simp [v_rd]
theorem e_put12 (N : Nat) (x : Int32) {n : Nat} (hn : n + 4 ≤ 400) (f : Nat) {M : v_M} (e : M.1 79 32 = nI n) : ∃ M' : v_M, f_X12_put_L3 N (f + 5) x 24 M = some (0, M') ∧ v_fr [107] [(79, 32)] M M' ∧ M'.1 79 32 = nI (n + 4) ∧ ∀ i, M'.1 107 i = if i = n + 3 then mb x 0 else if i = n + 2 then mb x 8 else if i = n + 1 then mb x 16 else if i = n then mb x 24 else M.1 107 i := by
  have step : ∀ (g m s : Nat) (A : v_M), m < 400 → s < 32 → A.1 79 32 = nI m → f_X12_put_L3 N (g + 1) x (nI s) A = f_X12_put_L3 N g x (nI s + -8) (v_wr (v_wr A 107 m (mb x s)) 79 32 (nI (m + 1))) := by
    intro g m s A hm hs hA
    rw [f_X12_put_L3]
    rw [if_neg (nI_pos (by omega)), hA]
    simp only [v_ibN hm (show 400 < 2 ^ 31 by omega), v_ckT, v_letE, nI_clamp (show m < 2 ^ 31 by omega), v_rdn, ne_eq, Nat.reduceEqDiff, not_false_eq_true, hA, nI_1]
    rfl
  rw [show (24 : Int32) = nI 24 from rfl, step (f + 4) n 24 M (by omega) (by omega) e, show nI 24 + -8 = nI 16 from rfl, step (f + 3) (n + 1) 16 _ (by omega) (by omega) (by rw [v_rd, if_pos ⟨rfl, rfl⟩]), show nI 16 + -8 = nI 8 from rfl, step (f + 2) (n + 2) 8 _ (by omega) (by omega) (by rw [v_rd, if_pos ⟨rfl, rfl⟩]), show nI 8 + -8 = nI 0 from rfl, step (f + 1) (n + 3) 0 _ (by omega) (by omega) (by rw [v_rd, if_pos ⟨rfl, rfl⟩])]
  refine ⟨_, by rw [f_X12_put_L3, if_pos (show nI 0 + -8 < 0 by decide)], v_fro (by decide) (v_frw (by decide) (v_fro (by decide) (v_frw (by decide) (v_fro (by decide) (v_frw (by decide) (v_fro (by decide) (v_frw (by decide) v_frR))))))), by rw [v_rd, if_pos ⟨rfl, rfl⟩], fun i => ?_⟩
  simp [v_rd]
