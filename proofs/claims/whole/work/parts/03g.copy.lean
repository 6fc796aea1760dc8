section VR5
variable {E : v_E} {X : v_X} {cc : ByteArray} {own : String} {nL d : Nat} {b : Nat × Nat} {pc : Nat} {lv lv' : List (Nat × Value)} {st rest : List Value} {sh : v_S} {P : v_P} {M : v_M}
theorem v_nn {z : Int32} (hz : ¬ z < 0) : z.toInt = (z.toNatClampNeg : Int) := by
  have hz0 : (0 : Int) ≤ z.toInt := by
    have := Int32.not_lt.mp hz
    simpa using Int32.le_iff_toInt_le.mp this
  show z.toInt = ((z.toInt.toNat : Nat) : Int)
  omega
theorem V.copy (hX : v_K E X cc own nL d) {ix k0 k1 n0 n1 : Nat} {sp dp n : Int32} (w1 : Cond.methodLink own ix arraycopyName ∈ v_bw) (w2 : Cond.native arraycopyName ∈ v_bw) (w3 : Cond.static arraycopyName ∈ v_bw) (w4 : Cond.initialized "java/lang/System" ∈ v_bw)
    (hk0 : sh[k0]? = some (1, n0)) (hk1 : sh[k1]? = some (1, n1)) (h1 : ¬ sp < 0) (h2 : ¬ dp < 0) (h3 : ¬ n < 0) (h4 : sp.toNatClampNeg + n.toNatClampNeg ≤ n0) (h5 : dp.toNatClampNeg + n.toNatClampNeg ≤ n1) (hd : decode cc pc = .ok (.invokestatic ix, 3)) (hdd : 1 ≤ d) (hrs : (st.map fun v => v.category).sum ≤ 8)
    (kk : V E X b (pc + 3) lv st sh P (v_row M k1 (va_cpy (M.1 k0) (M.1 k1) sp.toNatClampNeg dp.toNatClampNeg n.toNatClampNeg))) : V E X b pc lv (.int n :: .int dp :: v_rf E k1 :: .int sp :: v_rf E k0 :: st) sh P M := by
  obtain ⟨p, e, R, s, m, args, below, meth, c, Q⟩ := X
  intro H locs cells slots ls hl hR hlo hc hs
  have hts := hX.2.2.2.1
  have hfr : d ≤ R.frames := hX.2.2.2.2.2.2.1
  have hlc : 64 * d ≤ R.locals := hX.2.2.2.2.2.2.2.1
  have hK := hX.2.2.2.2.1.1
  have hb : c.code = cc := hX.2.1
  have hml : ls.size = c.maxLocals := hl.1
  have hnw : nativeFrameWords "java/lang/System" "arraycopy" 5 + 11 ≤ 40 := by decide +kernel
  intro T hT Xs
  have hc0 : H[v_o E + k0]? = some (vp_cell (E.2.2.1 1) (n0, .inl (M.1 k0))) := hR.2.2 k0 _ hk0
  have hc1 : H[v_o E + k1]? = some (vp_cell (E.2.2.1 1) (n1, .inl (M.1 k1))) := hR.2.2 k1 _ hk1
  obtain ⟨-, kk0, hkk0, cm0, hkd0⟩ := (hK.2 0 _ rfl).1 n0 (fun j => .int (M.1 k0 j))
  obtain ⟨-, kk1, hkk1, cm1, hkd1⟩ := (hK.2 0 _ rfl).1 n1 (fun j => .int (M.1 k1 j))
  obtain ⟨vm', X', step⟩ := Xs.arraycopy hX.1 hX.2.2.1 (hts _ w1) (hts _ w2) (hts _ w3) (hts _ w4) (src := v_o E + k0) (dst := v_o E + k1) (cs := vp_cell (E.2.2.1 1) (n0, .inl (M.1 k0))) (cd := vp_cell (E.2.2.1 1) (n1, .inl (M.1 k1))) (srcPos := sp) (destPos := dp) (n := n) (by rw [hT]; exact hc0) (by rw [hT]; exact hc1)
    (fun _ h => by cases h) (fun _ h => by cases h) (fun h => by cases h) (fun h => by cases h) hkk0 hkk1 hkd0 hkd1 (by simp [refKind]) h1 h2 h3
    (by rw [v_nn h1, v_nn h3]; show ¬ _ > ((arrV (E.2.2.1 1) n0 (fun j => .int (M.1 k0 j))).slots.size : Int); rw [arrV_size]; omega)
    (by rw [v_nn h2, v_nn h3]; show ¬ _ > ((arrV (E.2.2.1 1) n1 (fun j => .int (M.1 k1 j))).slots.size : Int); rw [arrV_size]; omega)
    (fun vm₁ _ i hi => by
      have e0 : (vp_cell (E.2.2.1 1) (n0, .inl (M.1 k0))).slots.getD (sp.toNatClampNeg + i) .null = .int (M.1 k0 (sp.toNatClampNeg + i)) := by
        show (arrV (E.2.2.1 1) n0 (fun j => .int (M.1 k0 j))).slots.getD _ _ = _
        rw [Array.getD_eq_getD_getElem?, arrV_read _ _ (by omega)]
        rfl
      refine ⟨?_, ?_⟩
      · rw [e0]; rfl
      · rw [e0]; exact trivial)
    (g := F0 m pc ls (.int n :: .int dp :: v_rf E k1 :: .int sp :: v_rf E k0 :: st)) rfl (by rw [← hml]) (rest := st) rfl (by rw [hb]; exact hd) (by show 1 ≤ R.frames; omega) (by show 2 * 0 + (st.map fun v => v.category).sum + (nativeFrameWords "java/lang/System" "arraycopy" 5 + 11) ≤ R.locals; omega)
  have e1 : copied (vp_cell (E.2.2.1 1) (n0, .inl (M.1 k0))) (vp_cell (E.2.2.1 1) (n1, .inl (M.1 k1))) sp dp n = vp_cell (E.2.2.1 1) (n1, .inl (va_cpy (M.1 k0) (M.1 k1) sp.toNatClampNeg dp.toNatClampNeg n.toNatClampNeg)) := va_copied (fun z => .int z) _ _ (M.1 k0) (M.1 k1) h4
  rw [e1] at X' step
  have hlt : v_o E + k1 < H.size := (Array.getElem?_eq_some_iff.mp hc1).1
  generalize hcell : vp_cell (E.2.2.1 1) (n1, .inl (va_cpy (M.1 k0) (M.1 k1) sp.toNatClampNeg dp.toNatClampNeg n.toNatClampNeg)) = cell at X' step
  have hheap : ((T.setVm vm').setCell (v_o E + k1) cell).heap = H.setIfInBounds (v_o E + k1) cell := by rw [← hT]; rfl
  have oq : ∀ q : Nat, q ≠ v_o E + k1 → (H.setIfInBounds (v_o E + k1) cell)[q]? = H[q]? := fun q hq => by simp [Array.getElem?_setIfInBounds, Ne.symm hq]
  obtain ⟨t, a1, b1⟩ := kk _ _ cells slots ls hl (hR.upd (M' := v_row M k1 (va_cpy (M.1 k0) (M.1 k1) sp.toNatClampNeg dp.toNatClampNeg n.toNatClampNeg)) hk1 (by simp) oq (fun j h => by simp [v_row, h]) (fun j h => rfl) (fun j h => rfl) (by
      show (H.setIfInBounds (v_o E + k1) cell)[v_o E + k1]? = some (arrV (E.2.2.1 1) n1 (v_av E P (v_row M k1 (va_cpy (M.1 k0) (M.1 k1) sp.toNatClampNeg dp.toNatClampNeg n.toNatClampNeg)) 1 k1))
      rw [show (H.setIfInBounds (v_o E + k1) cell)[v_o E + k1]? = some cell by simp [Array.getElem?_setIfInBounds, hlt], ← hcell, vp_cell_i]
      congr 2
      funext j
      simp [v_av, v_row])) (fun q hq => by
      rcases List.mem_append.mp hq with h | h
      · exact hlo q h
      · obtain ⟨z, -, hz⟩ := List.mem_map.mp h
        rw [← hz]
        exact Nat.le_add_right _ _) hc hs _ hheap X'
  exact ⟨t, step t a1, b1⟩
end VR5
