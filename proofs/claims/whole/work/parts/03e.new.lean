section VR3
variable {E : v_E} {X : v_X} {cc : ByteArray} {own : String} {nL d : Nat} {b : Nat × Nat} {pc : Nat} {lv lv' : List (Nat × Value)} {st : List Value} {sh : v_S} {P : v_P} {M : v_M}
def v_mN (M : v_M) (k : Nat) : v_M := (fun k' => if k' = k then fun _ => 0 else M.1 k', fun k' => if k' = k then fun _ => 0 else M.2 k')
def v_pN (P : v_P) (k : Nat) : v_P := fun k' => if k' = k then fun _ => none else P k'
def v_okT (ty : FieldType) : Bool := v_isI ty || v_isR ty || match ty with | .long => true | _ => false
theorem v_okTs : ∀ ci : Nat, ci < 13 → ∀ j, j < v_N ci → v_okT (v_ty ci j) = true := by decide +kernel
theorem v_dv {ty : FieldType} (h : v_okT ty = true) (k j : Nat) : defaultValue ty = v_fv E (v_pN P k) (v_mN M k) ty k j := by
  cases ty <;> first | (cases h; done) | simp [defaultValue, v_fv, v_mN, v_pN, v_rq]
theorem V.new (hX : v_K E X cc own nL d) {ix ci n : Nat} {b1 b2 : Nat} (hci : ci < 13) (hn : v_N ci = n) (h1 : Cond.classLink own ix (v_cn ci) ∈ v_bw) (h2 : Cond.instantiable (v_cn ci) n ∈ v_bw) (h3 : Cond.initialized (v_cn ci) ∈ v_bw) (hd : decode cc pc = .ok (.new ix, 3))
    (kk : V E X (b1, b2) (pc + 3) lv (v_rf E sh.length :: st) (sh ++ [(0, ci)]) (v_pN P sh.length) (v_mN M sh.length)) : V E X (b1 + 1, b2 + n) pc lv st sh P M := by
  obtain ⟨p, e, R, s, m, args, below, meth, c, Q⟩ := X
  intro H locs cells slots ls hl hR hlo hc hs
  have hts := hX.2.2.2.1
  have hKn := hX.2.2.2.2.1.1.1 ci _ (v_cl ci hci)
  have hc : cells + (b1 + 1) ≤ R.cells := hc
  have hs : slots + (b2 + n) ≤ R.slots := hs
  refine W.newcK hX.1 hX.2.1 hX.2.2.1 (hts _ h1) (hts _ h2) (hts _ h3) rfl hd (by omega) (by omega) hKn.2.1 hR.2.1 fun H1 kC hkC e1 z1 o1 => ?_
  have hz := hR.2.1
  refine kk H1 locs (cells + 1) (slots + n) ls hl (hR.push (by rw [z1, hz]) (fun x hx => o1 x (by omega)) (fun j hj => ?_) (fun j hj => ?_) (fun j hj => ?_) ⟨hci, (u_born (v_ty ci) hts (v_lay ci hci) hKn hkC e1 (v_tok ci hci)).to (fun j hj => v_dv (v_okTs ci hci j hj) _ _)⟩) hlo (by show cells + 1 + b1 ≤ R.cells; omega) (by show slots + n + b2 ≤ R.slots; omega)
  · simp [v_mN, Nat.ne_of_lt hj]
  · simp [v_mN, Nat.ne_of_lt hj]
  · simp [v_pN, Nat.ne_of_lt hj]
theorem V.newa_int (hX : v_K E X cc own nL d) {n : Int32} {N b1 b2 : Nat} (hw : Cond.arrayClass .int ∈ v_bw) (hn : ¬ n < 0) (hN : n.toNatClampNeg = N) (hN2 : N ≤ 10000) (hd : decode cc pc = .ok (.newarray .int, 2))
    (kk : V E X (b1, b2) (pc + 2) lv (v_rf E sh.length :: st) (sh ++ [(1, N)]) (v_pN P sh.length) (v_mN M sh.length)) : V E X (b1 + 1, b2 + N) pc lv (.int n :: st) sh P M := by
  obtain ⟨p, e, R, s, m, args, below, meth, c, Q⟩ := X
  intro H locs cells slots ls hl hR hlo hc hs
  have hc : cells + (b1 + 1) ≤ R.cells := hc
  have hs : slots + (b2 + N) ≤ R.slots := hs
  have hz := hR.2.1
  refine va_newaK (atype := .int) hX.1 hX.2.1 (hX.2.2.2.1 _ hw) rfl hd rfl hn hN (by simp [newarray.typeOf, componentBytes]; omega) (by omega) (by omega) hR.2.1 fun H1 cA e1 z1 o1 _ hf => ?_
  have hfc : s.vm.findClass ("[" ++ (.int : FieldType).toString) = some (E.2.2.1 1) := (hX.2.2.2.2.1.1.2 0 _ rfl).2
  have e2 : cA = E.2.2.1 1 := Option.some.inj (hf.symm.trans hfc)
  subst e2
  refine kk H1 locs (cells + 1) (slots + N) ls hl (hR.push (by rw [z1, hz]) (fun x hx => o1 x (by omega)) (fun j hj => ?_) (fun j hj => ?_) (fun j hj => ?_) ?_) hlo (by show cells + 1 + b1 ≤ R.cells; omega) (by show slots + N + b2 ≤ R.slots; omega)
  · simp [v_mN, Nat.ne_of_lt hj]
  · simp [v_mN, Nat.ne_of_lt hj]
  · simp [v_pN, Nat.ne_of_lt hj]
  · show H1[v_o E + sh.length]? = some (arrV (E.2.2.1 1) N (v_av E (v_pN P sh.length) (v_mN M sh.length) 1 sh.length))
    rw [e1]
    congr 2
    funext j
    simp [newarray.typeOf, defaultValue, v_av, v_mN]
theorem V.newa_boolean (hX : v_K E X cc own nL d) {n : Int32} {N b1 b2 : Nat} (hw : Cond.arrayClass .boolean ∈ v_bw) (hn : ¬ n < 0) (hN : n.toNatClampNeg = N) (hN2 : N ≤ 10000) (hd : decode cc pc = .ok (.newarray .boolean, 2))
    (kk : V E X (b1, b2) (pc + 2) lv (v_rf E sh.length :: st) (sh ++ [(2, N)]) (v_pN P sh.length) (v_mN M sh.length)) : V E X (b1 + 1, b2 + N) pc lv (.int n :: st) sh P M := by
  obtain ⟨p, e, R, s, m, args, below, meth, c, Q⟩ := X
  intro H locs cells slots ls hl hR hlo hc hs
  have hc : cells + (b1 + 1) ≤ R.cells := hc
  have hs : slots + (b2 + N) ≤ R.slots := hs
  have hz := hR.2.1
  refine va_newaK (atype := .boolean) hX.1 hX.2.1 (hX.2.2.2.1 _ hw) rfl hd rfl hn hN (by simp [newarray.typeOf, componentBytes]; omega) (by omega) (by omega) hR.2.1 fun H1 cA e1 z1 o1 _ hf => ?_
  have hfc : s.vm.findClass ("[" ++ (.boolean : FieldType).toString) = some (E.2.2.1 2) := (hX.2.2.2.2.1.1.2 1 _ rfl).2
  have e2 : cA = E.2.2.1 2 := Option.some.inj (hf.symm.trans hfc)
  subst e2
  refine kk H1 locs (cells + 1) (slots + N) ls hl (hR.push (by rw [z1, hz]) (fun x hx => o1 x (by omega)) (fun j hj => ?_) (fun j hj => ?_) (fun j hj => ?_) ?_) hlo (by show cells + 1 + b1 ≤ R.cells; omega) (by show slots + N + b2 ≤ R.slots; omega)
  · simp [v_mN, Nat.ne_of_lt hj]
  · simp [v_mN, Nat.ne_of_lt hj]
  · simp [v_pN, Nat.ne_of_lt hj]
  · show H1[v_o E + sh.length]? = some (arrV (E.2.2.1 2) N (v_av E (v_pN P sh.length) (v_mN M sh.length) 2 sh.length))
    rw [e1]
    congr 2
    funext j
    simp [newarray.typeOf, defaultValue, v_av, v_mN]
theorem V.newa_byte (hX : v_K E X cc own nL d) {n : Int32} {N b1 b2 : Nat} (hw : Cond.arrayClass .byte ∈ v_bw) (hn : ¬ n < 0) (hN : n.toNatClampNeg = N) (hN2 : N ≤ 10000) (hd : decode cc pc = .ok (.newarray .byte, 2))
    (kk : V E X (b1, b2) (pc + 2) lv (v_rf E sh.length :: st) (sh ++ [(3, N)]) (v_pN P sh.length) (v_mN M sh.length)) : V E X (b1 + 1, b2 + N) pc lv (.int n :: st) sh P M := by
  obtain ⟨p, e, R, s, m, args, below, meth, c, Q⟩ := X
  intro H locs cells slots ls hl hR hlo hc hs
  have hc : cells + (b1 + 1) ≤ R.cells := hc
  have hs : slots + (b2 + N) ≤ R.slots := hs
  have hz := hR.2.1
  refine va_newaK (atype := .byte) hX.1 hX.2.1 (hX.2.2.2.1 _ hw) rfl hd rfl hn hN (by simp [newarray.typeOf, componentBytes]; omega) (by omega) (by omega) hR.2.1 fun H1 cA e1 z1 o1 _ hf => ?_
  have hfc : s.vm.findClass ("[" ++ (.byte : FieldType).toString) = some (E.2.2.1 3) := (hX.2.2.2.2.1.1.2 2 _ rfl).2
  have e2 : cA = E.2.2.1 3 := Option.some.inj (hf.symm.trans hfc)
  subst e2
  refine kk H1 locs (cells + 1) (slots + N) ls hl (hR.push (by rw [z1, hz]) (fun x hx => o1 x (by omega)) (fun j hj => ?_) (fun j hj => ?_) (fun j hj => ?_) ?_) hlo (by show cells + 1 + b1 ≤ R.cells; omega) (by show slots + N + b2 ≤ R.slots; omega)
  · simp [v_mN, Nat.ne_of_lt hj]
  · simp [v_mN, Nat.ne_of_lt hj]
  · simp [v_pN, Nat.ne_of_lt hj]
  · show H1[v_o E + sh.length]? = some (arrV (E.2.2.1 3) N (v_av E (v_pN P sh.length) (v_mN M sh.length) 3 sh.length))
    rw [e1]
    congr 2
    funext j
    simp [newarray.typeOf, defaultValue, v_av, v_mN]
theorem V.newa_long (hX : v_K E X cc own nL d) {n : Int32} {N b1 b2 : Nat} (hw : Cond.arrayClass .long ∈ v_bw) (hn : ¬ n < 0) (hN : n.toNatClampNeg = N) (hN2 : N ≤ 10000) (hd : decode cc pc = .ok (.newarray .long, 2))
    (kk : V E X (b1, b2) (pc + 2) lv (v_rf E sh.length :: st) (sh ++ [(4, N)]) (v_pN P sh.length) (v_mN M sh.length)) : V E X (b1 + 1, b2 + N) pc lv (.int n :: st) sh P M := by
  obtain ⟨p, e, R, s, m, args, below, meth, c, Q⟩ := X
  intro H locs cells slots ls hl hR hlo hc hs
  have hc : cells + (b1 + 1) ≤ R.cells := hc
  have hs : slots + (b2 + N) ≤ R.slots := hs
  have hz := hR.2.1
  refine va_newaK (atype := .long) hX.1 hX.2.1 (hX.2.2.2.1 _ hw) rfl hd rfl hn hN (by simp [newarray.typeOf, componentBytes]; omega) (by omega) (by omega) hR.2.1 fun H1 cA e1 z1 o1 _ hf => ?_
  have hfc : s.vm.findClass ("[" ++ (.long : FieldType).toString) = some (E.2.2.1 4) := (hX.2.2.2.2.1.1.2 3 _ rfl).2
  have e2 : cA = E.2.2.1 4 := Option.some.inj (hf.symm.trans hfc)
  subst e2
  refine kk H1 locs (cells + 1) (slots + N) ls hl (hR.push (by rw [z1, hz]) (fun x hx => o1 x (by omega)) (fun j hj => ?_) (fun j hj => ?_) (fun j hj => ?_) ?_) hlo (by show cells + 1 + b1 ≤ R.cells; omega) (by show slots + N + b2 ≤ R.slots; omega)
  · simp [v_mN, Nat.ne_of_lt hj]
  · simp [v_mN, Nat.ne_of_lt hj]
  · simp [v_pN, Nat.ne_of_lt hj]
  · show H1[v_o E + sh.length]? = some (arrV (E.2.2.1 4) N (v_av E (v_pN P sh.length) (v_mN M sh.length) 4 sh.length))
    rw [e1]
    congr 2
    funext j
    simp [newarray.typeOf, defaultValue, v_av, v_mN]
theorem V.anewO (hX : v_K E X cc own nL d) {ix : Nat} {n : Int32} {N b1 b2 : Nat} (h1 : Cond.classLink own ix "NearlyShut$Order" ∈ v_bw) (hn : ¬ n < 0) (hN : n.toNatClampNeg = N) (hN2 : N ≤ 10000) (hd : decode cc pc = .ok (.anewarray ix, 3))
    (kk : V E X (b1, b2) (pc + 3) lv (v_rf E sh.length :: st) (sh ++ [(5, N)]) (v_pN P sh.length) (v_mN M sh.length)) : V E X (b1 + 1, b2 + N) pc lv (.int n :: st) sh P M := by
  obtain ⟨p, e, R, s, m, args, below, meth, c, Q⟩ := X
  intro H locs cells slots ls hl hR hlo hc hs
  have hc : cells + (b1 + 1) ≤ R.cells := hc
  have hs : slots + (b2 + N) ≤ R.slots := hs
  have hz := hR.2.1
  subst hN
  refine W.anew hX.1 hX.2.1 hX.2.2.1 (hX.2.2.2.1 _ h1) (va_AO.use hX.2.2.2.2.1.2.2.1.1) rfl hd rfl hn (by omega) (by omega) (by omega) fun cA kA comp g1 g2 g3 g4 => ?_
  obtain ⟨_, _, -, -, -, hfc⟩ := (hX.2.2.2.2.1.1.2 4 _ rfl).2
  have e2 : cA = E.2.2.1 5 := Option.some.inj (g1.symm.trans hfc)
  subst e2
  rw [show H.size = v_o E + sh.length from hz]
  refine kk _ locs (cells + 1) (slots + n.toNatClampNeg) ls hl (hR.push (by simp) (fun x hx => ?_) (fun j hj => ?_) (fun j hj => ?_) (fun j hj => ?_) ?_) hlo (by show cells + 1 + b1 ≤ R.cells; omega) (by show slots + n.toNatClampNeg + b2 ≤ R.slots; omega)
  · rw [Array.getElem?_push, if_neg (Nat.ne_of_lt hx)]
  · simp [v_mN, Nat.ne_of_lt hj]
  · simp [v_mN, Nat.ne_of_lt hj]
  · simp [v_pN, Nat.ne_of_lt hj]
  · show (H.push _)[v_o E + sh.length]? = some (arrV (E.2.2.1 5) _ (v_av E (v_pN P sh.length) (v_mN M sh.length) 5 sh.length))
    rw [← hz, Array.getElem?_push, if_pos rfl, arrV_new]
    congr 2
    funext j
    simp [v_av, v_pN, v_rq]
theorem V.anewF (hX : v_K E X cc own nL d) {ix : Nat} {n : Int32} {N b1 b2 : Nat} (h1 : Cond.classLink own ix "NearlyShut$Fleet" ∈ v_bw) (hn : ¬ n < 0) (hN : n.toNatClampNeg = N) (hN2 : N ≤ 10000) (hd : decode cc pc = .ok (.anewarray ix, 3))
    (kk : V E X (b1, b2) (pc + 3) lv (v_rf E sh.length :: st) (sh ++ [(6, N)]) (v_pN P sh.length) (v_mN M sh.length)) : V E X (b1 + 1, b2 + N) pc lv (.int n :: st) sh P M := by
  obtain ⟨p, e, R, s, m, args, below, meth, c, Q⟩ := X
  intro H locs cells slots ls hl hR hlo hc hs
  have hc : cells + (b1 + 1) ≤ R.cells := hc
  have hs : slots + (b2 + N) ≤ R.slots := hs
  have hz := hR.2.1
  subst hN
  refine W.anew hX.1 hX.2.1 hX.2.2.1 (hX.2.2.2.1 _ h1) (va_AO.use hX.2.2.2.2.1.2.2.1.2) rfl hd rfl hn (by omega) (by omega) (by omega) fun cA kA comp g1 g2 g3 g4 => ?_
  obtain ⟨_, _, -, -, -, hfc⟩ := (hX.2.2.2.2.1.1.2 5 _ rfl).2
  have e2 : cA = E.2.2.1 6 := Option.some.inj (g1.symm.trans hfc)
  subst e2
  rw [show H.size = v_o E + sh.length from hz]
  refine kk _ locs (cells + 1) (slots + n.toNatClampNeg) ls hl (hR.push (by simp) (fun x hx => ?_) (fun j hj => ?_) (fun j hj => ?_) (fun j hj => ?_) ?_) hlo (by show cells + 1 + b1 ≤ R.cells; omega) (by show slots + n.toNatClampNeg + b2 ≤ R.slots; omega)
  · rw [Array.getElem?_push, if_neg (Nat.ne_of_lt hx)]
  · simp [v_mN, Nat.ne_of_lt hj]
  · simp [v_mN, Nat.ne_of_lt hj]
  · simp [v_pN, Nat.ne_of_lt hj]
  · show (H.push _)[v_o E + sh.length]? = some (arrV (E.2.2.1 6) _ (v_av E (v_pN P sh.length) (v_mN M sh.length) 6 sh.length))
    rw [← hz, Array.getElem?_push, if_pos rfl, arrV_new]
    congr 2
    funext j
    simp [v_av, v_pN, v_rq]
end VR3
