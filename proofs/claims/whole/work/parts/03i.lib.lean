def v_mx (x y : Int32) : Int32 := if x < y then y else x
def v_mn (x y : Int32) : Int32 := if y < x then y else x
def v_lx (x y : Int64) : Int64 := if y < x then x else y
def v_ln (x y : Int64) : Int64 := if y < x then y else x
section VR7
variable {E : v_E} {X : v_X} {cc : ByteArray} {own : String} {nL d : Nat} {b : Nat × Nat} {pc : Nat} {lv lv' : List (Nat × Value)} {st rest : List Value} {sh : v_S} {P : v_P} {M M' : v_M}
variable {d' : Nat} {y : MethodName} {ccy : ByteArray} {nLy : Nat} {ret : Option FieldType} {As : List Value}
theorem V.mmax (hX : v_K E X cc own nL d) {ix : Nat} {x y : Int32} (w1 : Cond.methodLink own ix Lib.Math.max.name ∈ v_bw) (w2 : Cond.static Lib.Math.max.name ∈ v_bw) (w3 : Cond.initialized "java/lang/Math" ∈ v_bw) (w4 : Cond.code Lib.Math.max.name Lib.Math.max.code 2 (some .int) ∈ v_bw) (hd : decode cc pc = .ok (.invokestatic ix, 3)) (hdd : 1 ≤ d) (hrs : (st.map fun v => v.category).sum ≤ 8) (kk : V E X b (pc + 3) lv (.int (v_mx x y) :: st) sh P M) : V E X b pc lv (.int y :: .int x :: st) sh P M := by
  obtain ⟨p, e, R, s, m, args, below, meth, c, Q⟩ := X
  intro H locs cells slots ls hl hR hlo hc hs
  have hts := hX.2.2.2.1
  have hfr : d ≤ R.frames := hX.2.2.2.2.2.2.1
  have hlc : 64 * d ≤ R.locals := hX.2.2.2.2.2.2.2.1
  have hc1 : cells + b.1 ≤ R.cells := hc
  have hs1 : slots + b.2 ≤ R.slots := hs
  exact va_mmax hX.1 hX.2.1 hl.1.symm hX.2.2.1 (hts _ w1) (hts _ w2) (hts _ w3) (hts _ w4) (by show 1 ≤ R.frames; omega) (by show (st.map fun v => v.category).sum + 13 ≤ R.locals; omega) (by show cells ≤ R.cells; omega) (by show slots ≤ R.slots; omega) hd (kk H locs cells slots ls hl hR hlo hc hs)
theorem V.mmin (hX : v_K E X cc own nL d) {ix : Nat} {x y : Int32} (w1 : Cond.methodLink own ix Lib.Math.min.name ∈ v_bw) (w2 : Cond.static Lib.Math.min.name ∈ v_bw) (w3 : Cond.initialized "java/lang/Math" ∈ v_bw) (w4 : Cond.code Lib.Math.min.name Lib.Math.min.code 2 (some .int) ∈ v_bw) (hd : decode cc pc = .ok (.invokestatic ix, 3)) (hdd : 1 ≤ d) (hrs : (st.map fun v => v.category).sum ≤ 8) (kk : V E X b (pc + 3) lv (.int (v_mn x y) :: st) sh P M) : V E X b pc lv (.int y :: .int x :: st) sh P M := by
  obtain ⟨p, e, R, s, m, args, below, meth, c, Q⟩ := X
  intro H locs cells slots ls hl hR hlo hc hs
  have hts := hX.2.2.2.1
  have hfr : d ≤ R.frames := hX.2.2.2.2.2.2.1
  have hlc : 64 * d ≤ R.locals := hX.2.2.2.2.2.2.2.1
  have hc1 : cells + b.1 ≤ R.cells := hc
  have hs1 : slots + b.2 ≤ R.slots := hs
  exact va_mmin hX.1 hX.2.1 hl.1.symm hX.2.2.1 (hts _ w1) (hts _ w2) (hts _ w3) (hts _ w4) (by show 1 ≤ R.frames; omega) (by show (st.map fun v => v.category).sum + 13 ≤ R.locals; omega) (by show cells ≤ R.cells; omega) (by show slots ≤ R.slots; omega) hd (kk H locs cells slots ls hl hR hlo hc hs)
theorem V.lmax (hX : v_K E X cc own nL d) {ix : Nat} {x y : Int64} (w1 : Cond.methodLink own ix Lib.MathLoose.max_long.x ∈ v_bw) (w2 : Cond.static Lib.MathLoose.max_long.x ∈ v_bw) (w3 : Cond.initialized "java/lang/Math" ∈ v_bw) (w4 : Cond.code Lib.MathLoose.max_long.x Lib.MathLoose.max_long.code 4 (some .long) ∈ v_bw) (hd : decode cc pc = .ok (.invokestatic ix, 3)) (hdd : 1 ≤ d) (hrs : (st.map fun v => v.category).sum ≤ 8) (kk : V E X b (pc + 3) lv (.long (v_lx x y) :: st) sh P M) : V E X b pc lv (.long y :: .long x :: st) sh P M := by
  obtain ⟨p, e, R, s, m, args, below, meth, c, Q⟩ := X
  intro H locs cells slots ls hl hR hlo hc hs
  have hts := hX.2.2.2.1
  have hfr : d ≤ R.frames := hX.2.2.2.2.2.2.1
  have hlc : 64 * d ≤ R.locals := hX.2.2.2.2.2.2.2.1
  have hc1 : cells + b.1 ≤ R.cells := hc
  have hs1 : slots + b.2 ≤ R.slots := hs
  exact va_mmax_long hX.1 hX.2.1 hl.1.symm hX.2.2.1 (hts _ w1) (hts _ w2) (hts _ w3) (hts _ w4) (by show 1 ≤ R.frames; omega) (by show (st.map fun v => v.category).sum + 15 ≤ R.locals; omega) (by show cells ≤ R.cells; omega) (by show slots ≤ R.slots; omega) hd (kk H locs cells slots ls hl hR hlo hc hs)
theorem V.lmin (hX : v_K E X cc own nL d) {ix : Nat} {x y : Int64} (w1 : Cond.methodLink own ix Lib.MathLoose.min_long.x ∈ v_bw) (w2 : Cond.static Lib.MathLoose.min_long.x ∈ v_bw) (w3 : Cond.initialized "java/lang/Math" ∈ v_bw) (w4 : Cond.code Lib.MathLoose.min_long.x Lib.MathLoose.min_long.code 4 (some .long) ∈ v_bw) (hd : decode cc pc = .ok (.invokestatic ix, 3)) (hdd : 1 ≤ d) (hrs : (st.map fun v => v.category).sum ≤ 8) (kk : V E X b (pc + 3) lv (.long (v_ln x y) :: st) sh P M) : V E X b pc lv (.long y :: .long x :: st) sh P M := by
  obtain ⟨p, e, R, s, m, args, below, meth, c, Q⟩ := X
  intro H locs cells slots ls hl hR hlo hc hs
  have hts := hX.2.2.2.1
  have hfr : d ≤ R.frames := hX.2.2.2.2.2.2.1
  have hlc : 64 * d ≤ R.locals := hX.2.2.2.2.2.2.2.1
  have hc1 : cells + b.1 ≤ R.cells := hc
  have hs1 : slots + b.2 ≤ R.slots := hs
  exact va_mmin_long hX.1 hX.2.1 hl.1.symm hX.2.2.1 (hts _ w1) (hts _ w2) (hts _ w3) (hts _ w4) (by show 1 ≤ R.frames; omega) (by show (st.map fun v => v.category).sum + 15 ≤ R.locals; omega) (by show cells ≤ R.cells; omega) (by show slots ≤ R.slots; omega) hd (kk H locs cells slots ls hl hR hlo hc hs)
theorem V.cStr {v : Value} (hX : v_K E X cc own nL d) {ix i : Nat} (hm : v_Ct E d' y ccy nLy ret 0 0 (v_st E i :: As) sh P M (v_Q1 (some v) sh P M')) (hY : v_Y y ccy nLy ret As.length) (hC : v_CV own ix y) (hcn : y.cls = "java/lang/String") (hi : i < 21) (hd : decode cc pc = .ok (.invokevirtual ix, 3)) (hdd : d' + 1 ≤ d) (hst : st = As.reverse ++ v_st E i :: rest) (hrs : (rest.map fun v => v.category).sum ≤ 8)
    (kk : V E X b (pc + 3) lv (v :: rest) sh P M') : V E X b pc lv st sh P M := by
  obtain ⟨p, e, R, s, m, args, below, meth, c, Q⟩ := X
  intro H locs cells slots ls hl hR hlo hc hs
  have hts := hX.2.2.2.1
  have hfr : d ≤ R.frames := hX.2.2.2.2.2.2.1
  have hlc : 64 * d ≤ R.locals := hX.2.2.2.2.2.2.2.1
  obtain ⟨y1, y2, y3, y4⟩ := hY
  obtain ⟨c1, c2, c3⟩ := hC
  have hc : cells + b.1 ≤ R.cells := hc
  have hs : slots + b.2 ≤ R.slots := hs
  refine v_goes (mc := 0) (ms := 0) (va_runV (C := y.cls) (b := E.2.2.2.2.1 i) (As := As) (rest := rest) (n := As.length) (Pc := v_Pc E (v_st E i :: As) sh P M) (rm := { frames := d', cells := 0, slots := 0, locals := 64 * d' }) ⟨hX.1, hX.2.1, hX.2.2.2.2.2.1, hX.2.2.1, hts⟩ hm (cwV As.length hts ?_ rfl rfl rfl ⟨rfl, y3⟩ ⟨by show d' + 1 ≤ R.frames; omega, by show 8 + (nLy + 11) + 64 * d' ≤ R.locals; omega⟩) ⟨v_blind, ?_, fun U hU hW => ⟨rfl, hX.2.2.2.2.1.warm hW, by rw [hU]; exact hR⟩⟩ rfl rfl (by rw [← hX.2.2.2.2.2.1]; exact hl.1) hst (lv_room hrs) hd ⟨by omega, by omega⟩) hl hlo hc hs ⟨Nat.zero_le _, Nat.zero_le _⟩ (by rintro _ _ _ _ ⟨rfl, rfl, rfl, rfl⟩; exact kk)
  · intro w hw
    unfold wsV at hw
    rcases List.mem_append.mp hw with h | h
    · have h2 : w ∈ v_bw := by
        simp only [List.mem_cons, List.not_mem_nil, or_false] at h
        rcases h with rfl | rfl | rfl | rfl <;> assumption
      exact ⟨h2, good_of_word (List.mem_filter.mp h2).2⟩
    · exact v_good y1 w h
  · obtain ⟨cell, h1, h2, h3, -⟩ := (hX.2.2.2.2.1.2.2.2.2.1.1 i hi).1.kept (H1 := H) (fun a ha _ => hR.1 a ha)
    exact ⟨cell, h1, h2, by rw [hcn]; exact h3⟩
/-- a field of a String constant -/
theorem V.getStr (hX : v_K E X cc own nL d) {ix i : Nat} {n dd : String} {v : Value} (hE : va_OF "java/lang/String" n dd v (E.2.2.2.2.1 i) (fun q => v_o E ≤ q) X.2.2.2.1 E.2.2.2.1) (hlk : Cond.fieldLink own ix "java/lang/String" n dd ∈ v_bw) (hd : decode cc pc = .ok (.getfield ix, 3)) (kk : V E X b (pc + 3) lv (v :: st) sh P M) : V E X b pc lv (v_st E i :: st) sh P M := by
  obtain ⟨p, e, R, s, m, args, below, meth, c, Q⟩ := X
  intro H locs cells slots ls hl hR hlo hc hs
  obtain ⟨cf, k, fi, f, cell, h1, h2, h3, h4, h5, h6⟩ := hE.kept (H1 := H) (fun a ha _ => hR.1 a ha)
  exact W.getf hX.1 hX.2.1 hX.2.2.1 (hX.2.2.2.1 _ hlk) h1 h2 h3 h4 (v := v) h5 rfl rfl hd (kk H locs cells slots ls hl hR hlo hc hs)
/-- COMPACT_STRINGS -/
theorem V.getCS (hX : v_K E X cc own nL d) {ix : Nat} (hlk : Cond.fieldLink own ix "java/lang/String" "COMPACT_STRINGS" "Z" ∈ v_bw) (hd : decode cc pc = .ok (.getstatic ix, 3)) (kk : V E X b (pc + 3) lv (.int 1 :: st) sh P M) : V E X b pc lv st sh P M := by
  obtain ⟨p, e, R, s, m, args, below, meth, c, Q⟩ := X
  intro H locs cells slots ls hl hR hlo hc hs
  obtain ⟨cf, kf, fi, f, a, cell, h1, h2, h3, h4, h5, h6, h7, h8⟩ := (hX.2.2.2.2.1.2.2.2.2.2.1).kept (H1 := H) (fun a ha _ => hR.1 a ha)
  exact W.gets hX.1 hX.2.1 hX.2.2.1 (hX.2.2.2.1 _ hlk) h1 h2 h3 h4 h5 (fun e => by rw [e] at h6; cases h6) h7 rfl hd (kk H locs cells slots ls hl hR hlo hc hs)
theorem V.getSF (hX : v_K E X cc own nL d) {ix : Nat} (hlk : Cond.fieldLink own ix "jdk/internal/util/Preconditions" "SIOOBE_FORMATTER" "Ljava/util/function/BiFunction;" ∈ v_bw) (hd : decode cc pc = .ok (.getstatic ix, 3)) (kk : ∀ z : Value, (z = .null ∨ ∃ a, z = .ref a) → V E X b (pc + 3) lv (z :: st) sh P M) : V E X b pc lv st sh P M := by
  obtain ⟨p, e, R, s, m, args, below, meth, c, Q⟩ := X
  intro H locs cells slots ls hl hR hlo hc hs
  obtain ⟨z, hz, hZ⟩ := hX.2.2.2.2.1.2.2.2.2.2.2
  obtain ⟨cf, kf, fi, f, a, cell, h1, h2, h3, h4, h5, h6, h7, h8⟩ := hZ.kept (H1 := H) (fun a ha _ => hR.1 a ha)
  exact W.gets hX.1 hX.2.1 hX.2.2.1 (hX.2.2.2.1 _ hlk) h1 h2 h3 h4 h5 (fun e => by rw [e] at h6; cases h6) h7 rfl hd (kk z hz H locs cells slots ls hl hR hlo hc hs)
/-- the bytes of a String constant: length and element -/
theorem V.alenS (hX : v_K E X cc own nL d) {a n : Nat} {f : Nat → Value} {v : Int32} (hT : va_T .byte a n f (fun q => v_o E ≤ q) X.2.2.2.1 E.2.2.2.1) (hv : Int32.ofNat n = v) (hd : decode cc pc = .ok (.arraylength, 1)) (kk : V E X b (pc + 1) lv (.int v :: st) sh P M) : V E X b pc lv (.ref a :: st) sh P M := by
  obtain ⟨p, e, R, s, m, args, below, meth, c, Q⟩ := X
  intro H locs cells slots ls hl hR hlo hc hs
  obtain ⟨scr, hs1, hs2, hs3, hs4, hs6, hs5, hs7⟩ := hT
  have hc0 : H[a]? = some scr := by rw [hR.1 a (Array.getElem?_eq_some_iff.mp hs1).1]; exact hs1
  exact W.alen (n := v) hX.1 hX.2.1 hc0 hs2 (hs6.trans hv) rfl rfl hd (kk H locs cells slots ls hl hR hlo hc hs)
theorem V.baldS (hX : v_K E X cc own nL d) {a n : Nat} {i x : Int32} {f : Nat → Value} (hT : va_T .byte a n f (fun q => v_o E ≤ q) X.2.2.2.1 E.2.2.2.1) (hin : vp_in i n) (hx : f i.toNatClampNeg = .int x) (hd : decode cc pc = .ok (.baload, 1)) (kk : V E X b (pc + 1) lv (.int x :: st) sh P M) : V E X b pc lv (.int i :: .ref a :: st) sh P M := by
  obtain ⟨p, e, R, s, m, args, below, meth, c, Q⟩ := X
  intro H locs cells slots ls hl hR hlo hc hs
  obtain ⟨scr, hs1, hs2, hs3, hs4, hs6, hs5, hs7⟩ := hT
  have hc0 : H[a]? = some scr := by rw [hR.1 a (Array.getElem?_eq_some_iff.mp hs1).1]; exact hs1
  have hlt : i.toNatClampNeg < n := Nat.not_le.mp fun q => hin (Or.inr q)
  exact W.bald (v := .int x) hX.1 hX.2.1 hc0 hs2 hs3 (fun q => hin (q.imp id (fun z => Nat.le_trans hs4 z))) (by rw [hs5 _ hlt, hx]) rfl rfl hd (kk H locs cells slots ls hl hR hlo hc hs)
end VR7
