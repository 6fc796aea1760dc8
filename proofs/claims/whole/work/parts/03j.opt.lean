def v_opt {α : Type} (o : Option Nat) (a : α) (f : Nat → α) : α := match o with
  | none => a
  | some q => f q
theorem v_optN {α : Type} {o : Option Nat} {a : Option α} {f : Nat → Option α} {r : α} (e : o = none) (h : v_opt o a f = some r) : a = some r := by subst e; exact h
theorem v_optS {α : Type} {o : Option Nat} {q : Nat} {a : Option α} {f : Nat → Option α} {r : α} (e : o = some q) (h : v_opt o a f = some r) : f q = some r := by subst e; exact h
section VR8
variable {E : v_E} {X : v_X} {cc : ByteArray} {own : String} {nL d : Nat} {b : Nat × Nat} {pc : Nat} {lv lv' : List (Nat × Value)} {st rest : List Value} {sh : v_S} {P : v_P} {M M' : v_M}
theorem V.aaldON (hX : v_K E X cc own nL d) {k n : Nat} {i : Int32} (hk : sh[k]? = some (5, n)) (hin : vp_in i n) (hq : P k i.toNatClampNeg = none) (hd : decode cc pc = .ok (.aaload, 1)) (kk : V E X b (pc + 1) lv (.null :: st) sh P M) : V E X b pc lv (.int i :: v_rf E k :: st) sh P M := V.aaldO hX hk hin hd (by rw [hq]; exact kk)
theorem V.aaldOS (hX : v_K E X cc own nL d) {k n q : Nat} {i : Int32} (hk : sh[k]? = some (5, n)) (hin : vp_in i n) (hq : P k i.toNatClampNeg = some q) (hd : decode cc pc = .ok (.aaload, 1)) (kk : V E X b (pc + 1) lv (v_rf E q :: st) sh P M) : V E X b pc lv (.int i :: v_rf E k :: st) sh P M := V.aaldO hX hk hin hd (by rw [hq]; exact kk)
theorem V.aaldFN (hX : v_K E X cc own nL d) {k n : Nat} {i : Int32} (hk : sh[k]? = some (6, n)) (hin : vp_in i n) (hq : P k i.toNatClampNeg = none) (hd : decode cc pc = .ok (.aaload, 1)) (kk : V E X b (pc + 1) lv (.null :: st) sh P M) : V E X b pc lv (.int i :: v_rf E k :: st) sh P M := V.aaldF hX hk hin hd (by rw [hq]; exact kk)
theorem V.aaldFS (hX : v_K E X cc own nL d) {k n q : Nat} {i : Int32} (hk : sh[k]? = some (6, n)) (hin : vp_in i n) (hq : P k i.toNatClampNeg = some q) (hd : decode cc pc = .ok (.aaload, 1)) (kk : V E X b (pc + 1) lv (v_rf E q :: st) sh P M) : V E X b pc lv (.int i :: v_rf E k :: st) sh P M := V.aaldF hX hk hin hd (by rw [hq]; exact kk)
theorem V.ldcwS (hX : v_K E X cc own nL d) {ix i : Nat} {tx : String} (hq : v_sx[i]? = some (own, ix, tx)) (hd : decode cc pc = .ok (.ldc_w ix, 3)) (k : V E X b (pc + 3) lv (v_st E i :: st) sh P M) : V E X b pc lv st sh P M := by
  obtain ⟨p, e, R, s, m, args, below, meth, c, Q⟩ := X
  intro H locs cells slots ls hl hR hlo hc hs
  intro T hT Xs
  obtain ⟨t, a1, b1⟩ := k H locs cells slots ls hl hR hlo hc hs T hT Xs
  refine ⟨t, ?_, b1⟩
  have hZ := hX.2.2.2.2.1.2.2.2.1 i _ hq
  have hexec := hX.1
  have hb : c.code = cc := hX.2.1
  subst hb
  obtain ⟨k1, cf, i1, a', hk, hcf, hcp, -, hr, hev'⟩ := Cond.stringRef_spec hX.2.2.1 hZ.1
  cases hZ.2.symm.trans hev'
  obtain ⟨k', hk', he⟩ := Xs.warmed.alike.2.2 _ _ hk
  have hr' : k'.resolved[ix]? = some (some (.string (E.2.2.2.2.1 i))) := by
    rcases Xs.warmed.entry hk hk' ix with h | ⟨h, -⟩
    · rw [h]; exact hr
    · rw [hr] at h; cases h
  jvm_step Xs.here [hexec, hd, ldc_w.wp_string (e := e) (s := T) (f := F0 m pc ls st) Xs.here.top hk' (by rw [he]; exact hcf) hcp hr']
  exact a1
end VR8
