/-! words of the printed functions: what a method does to the memory, as a function -/
def v_ck {α : Type} (c : Bool) (x : Option α) : Option α := bif c then x else none
theorem v_ckS {α : Type} {c : Bool} {x : Option α} {o : α} (h : v_ck c x = some o) : c = true ∧ x = some o := by
  cases c with
  | true => exact ⟨rfl, h⟩
  | false => cases h
def v_let {α β : Type} (x : α) (f : α → β) : β := f x
theorem v_lt {α β : Type} {z x : α} {f : α → Option β} {o : β} (e : z = x) (h : v_let x f = some o) : f z = some o := by subst e; exact h
theorem v_bdS {α β : Type} {x : Option α} {f : α → Option β} {o : β} (h : x.bind f = some o) : ∃ r, x = some r ∧ f r = some o := by
  cases x with
  | none => cases h
  | some r => exact ⟨r, rfl, h⟩
def v_ib (i : Int32) (n : Nat) : Bool := decide (¬ i < 0) && decide (i.toNatClampNeg < n)
theorem v_ibS {i : Int32} {n : Nat} (h : v_ib i n = true) : vp_in i n := by
  simp only [v_ib, Bool.and_eq_true, decide_eq_true_eq] at h
  intro q
  rcases q with q | q
  · exact h.1 q
  · omega
def v_nz (y : Int32) : Bool := decide (¬ y = 0)
theorem v_nzS {y : Int32} (h : v_nz y = true) : ¬ y = 0 := of_decide_eq_true h
def v_nzl (y : Int64) : Bool := decide (¬ y = 0)
theorem v_nzlS {y : Int64} (h : v_nzl y = true) : ¬ y = 0 := of_decide_eq_true h
def v_b01 (x : Int32) : Bool := decide (x = 0) || decide (x = 1)
theorem v_b01S {x : Int32} (h : v_b01 x = true) : x = 0 ∨ x = 1 := by simpa [v_b01] using h
theorem v_z01 {x : Int32} (h : v_b01 x = true) : narrow .boolean (.int x) = .int x := by
  rcases v_b01S h with rfl | rfl <;> rfl
theorem v_okZ {x : Int32} (h : v_b01 x = true) : v_okI .boolean x := by
  rcases v_b01S h with rfl | rfl <;> exact ⟨rfl, rfl⟩
def v_cpk (sp dp n : Int32) (n0 n1 : Nat) : Bool := decide (¬ sp < 0) && decide (¬ dp < 0) && decide (¬ n < 0) && decide (sp.toNatClampNeg + n.toNatClampNeg ≤ n0) && decide (dp.toNatClampNeg + n.toNatClampNeg ≤ n1)
theorem v_cpkS {sp dp n : Int32} {n0 n1 : Nat} (h : v_cpk sp dp n n0 n1 = true) : ¬ sp < 0 ∧ ¬ dp < 0 ∧ ¬ n < 0 ∧ sp.toNatClampNeg + n.toNatClampNeg ≤ n0 ∧ dp.toNatClampNeg + n.toNatClampNeg ≤ n1 := by
  simp only [v_cpk, Bool.and_eq_true, decide_eq_true_eq] at h
  exact ⟨h.1.1.1.1, h.1.1.1.2, h.1.1.2, h.1.2, h.2⟩
/-- a method that answers and changes what cells hold, nothing else -/
def v_Q1 (rv : Option Value) (sh : v_S) (P : v_P) (M : v_M) : Option Value → v_S → v_P → v_M → Prop := fun v s p m => v = rv ∧ s = sh ∧ p = P ∧ m = M
theorem v_finI {sh : v_S} {P : v_P} {M : v_M} {x : Int32} {out : Int32 × v_M} (h : some (x, M) = some out) : v_Q1 (some (.int out.1)) sh P out.2 (some (.int x)) sh P M := by cases h; exact ⟨rfl, rfl, rfl, rfl⟩
theorem v_finL {sh : v_S} {P : v_P} {M : v_M} {x : Int64} {out : Int64 × v_M} (h : some (x, M) = some out) : v_Q1 (some (.long out.1)) sh P out.2 (some (.long x)) sh P M := by cases h; exact ⟨rfl, rfl, rfl, rfl⟩
theorem v_finV {sh : v_S} {P : v_P} {M : v_M} {x : Int32} {out : Int32 × v_M} (h : some (x, M) = some out) : v_Q1 none sh P out.2 none sh P M := by cases h; exact ⟨rfl, rfl, rfl, rfl⟩
theorem v_finS {E : v_E} {sh : v_S} {P : v_P} {M : v_M} {x : Nat} {out : Nat × v_M} (h : some (x, M) = some out) : v_Q1 (some (v_st E out.1)) sh P out.2 (some (v_st E x)) sh P M := by cases h; exact ⟨rfl, rfl, rfl, rfl⟩
theorem v_tout {x : Int32} {lo hi : Int} (h : ∀ i : Int, lo ≤ i → i ≤ hi → ¬ x.toInt = i) : x.toInt < lo ∨ hi < x.toInt := by
  by_cases h1 : x.toInt < lo
  · exact Or.inl h1
  · by_cases h2 : hi < x.toInt
    · exact Or.inr h2
    · exact absurd rfl (h x.toInt (by omega) (by omega))
theorem v_tne {x c : Int32} {i : Int} (hc : c.toInt = i) (h : ¬ x = c) : ¬ x.toInt = i := fun e => h (Int32.toInt_inj.mp (e.trans hc.symm))
section VR6
variable {E : v_E} {X : v_X} {cc : ByteArray} {own : String} {nL d : Nat} {b : Nat × Nat} {pc : Nat} {lv lv' : List (Nat × Value)} {st rest : List Value} {sh : v_S} {P : v_P} {M M' : v_M}
variable {d' : Nat} {y : MethodName} {ccy : ByteArray} {nLy : Nat} {ret : Option FieldType} {As : List Value}
theorem V.pick (ks : List Nat) {l : List (Nat × Value)} (h : ks.filterMap (fun i => (v_lk lv i).map (fun v => (i, v))) = l) (k : V E X b pc l st sh P M) : V E X b pc lv st sh P M := by
  refine V.sub (l := l) (fun q hq => ?_) k
  subst h
  obtain ⟨i, -, hi⟩ := List.mem_filterMap.mp hq
  cases e : v_lk lv i with
  | none => rw [e] at hi; cases hi
  | some v => rw [e] at hi; cases hi; exact e
theorem V.cV {v : Value} (hX : v_K E X cc own nL d) {ix q ci : Nat} (hm : v_Ct E d' y ccy nLy ret 0 0 (v_rf E q :: As) sh P M (v_Q1 (some v) sh P M')) (hY : v_Y y ccy nLy ret As.length) (hC : v_CV own ix y) (hci : ci < 13) (hcn : y.cls = v_cn ci) (hk : sh[q]? = some (0, ci)) (hd : decode cc pc = .ok (.invokevirtual ix, 3)) (hdd : d' + 1 ≤ d) (hst : st = As.reverse ++ v_rf E q :: rest) (hrs : (rest.map fun v => v.category).sum ≤ 8)
    (kk : V E X b (pc + 3) lv (v :: rest) sh P M') : V E X b pc lv st sh P M := V.callV hX hm hY hC hci hcn hk hd hdd hst hrs ⟨Nat.zero_le _, Nat.zero_le _⟩ (by rintro _ _ _ _ ⟨rfl, rfl, rfl, rfl⟩; exact kk)
theorem V.cVv (hX : v_K E X cc own nL d) {ix q ci : Nat} (hm : v_Ct E d' y ccy nLy ret 0 0 (v_rf E q :: As) sh P M (v_Q1 none sh P M')) (hY : v_Y y ccy nLy ret As.length) (hC : v_CV own ix y) (hci : ci < 13) (hcn : y.cls = v_cn ci) (hk : sh[q]? = some (0, ci)) (hd : decode cc pc = .ok (.invokevirtual ix, 3)) (hdd : d' + 1 ≤ d) (hst : st = As.reverse ++ v_rf E q :: rest) (hrs : (rest.map fun v => v.category).sum ≤ 8)
    (kk : V E X b (pc + 3) lv rest sh P M') : V E X b pc lv st sh P M := V.callV hX hm hY hC hci hcn hk hd hdd hst hrs ⟨Nat.zero_le _, Nat.zero_le _⟩ (by rintro _ _ _ _ ⟨rfl, rfl, rfl, rfl⟩; exact kk)
theorem V.cS {v : Value} (hX : v_K E X cc own nL d) {ix : Nat} (hm : v_Ct E d' y ccy nLy ret 0 0 As sh P M (v_Q1 (some v) sh P M')) (hY : v_Y y ccy nLy ret As.length) (hC : v_CS own ix y) (hd : decode cc pc = .ok (.invokestatic ix, 3)) (hdd : d' + 1 ≤ d) (hst : st = As.reverse ++ rest) (hrs : (rest.map fun v => v.category).sum ≤ 8)
    (kk : V E X b (pc + 3) lv (v :: rest) sh P M') : V E X b pc lv st sh P M := V.callS hX hm hY hC hd hdd hst hrs ⟨Nat.zero_le _, Nat.zero_le _⟩ (by rintro _ _ _ _ ⟨rfl, rfl, rfl, rfl⟩; exact kk)
theorem V.cSv (hX : v_K E X cc own nL d) {ix : Nat} (hm : v_Ct E d' y ccy nLy ret 0 0 As sh P M (v_Q1 none sh P M')) (hY : v_Y y ccy nLy ret As.length) (hC : v_CS own ix y) (hd : decode cc pc = .ok (.invokestatic ix, 3)) (hdd : d' + 1 ≤ d) (hst : st = As.reverse ++ rest) (hrs : (rest.map fun v => v.category).sum ≤ 8)
    (kk : V E X b (pc + 3) lv rest sh P M') : V E X b pc lv st sh P M := V.callS hX hm hY hC hd hdd hst hrs ⟨Nat.zero_le _, Nat.zero_le _⟩ (by rintro _ _ _ _ ⟨rfl, rfl, rfl, rfl⟩; exact kk)
theorem V.cSN {v : Value} (hX : v_K E X cc own nL d) {ix : Nat} {host : String} (hm : v_Ct E d' y ccy nLy ret 0 0 As sh P M (v_Q1 (some v) sh P M')) (hY : v_Y y ccy nLy ret As.length) (hC : v_CSN own ix y host) (hd : decode cc pc = .ok (.invokestatic ix, 3)) (hdd : d' + 1 ≤ d) (hst : st = As.reverse ++ rest) (hrs : (rest.map fun v => v.category).sum ≤ 8)
    (kk : V E X b (pc + 3) lv (v :: rest) sh P M') : V E X b pc lv st sh P M := V.callSN hX hm hY hC hd hdd hst hrs ⟨Nat.zero_le _, Nat.zero_le _⟩ (by rintro _ _ _ _ ⟨rfl, rfl, rfl, rfl⟩; exact kk)
end VR6
