section VR4
variable {E : v_E} {X : v_X} {cc : ByteArray} {own : String} {nL d : Nat} {b : Nat × Nat} {pc : Nat} {lv lv' : List (Nat × Value)} {st rest : List Value} {sh : v_S} {P : v_P} {M : v_M}
variable {d' : Nat} {y : MethodName} {ccy : ByteArray} {nLy : Nat} {ret : Option FieldType} {mc ms : Nat} {As : List Value} {Qp : Option Value → v_S → v_P → v_M → Prop}
/-- the callee: its code's word, its class is initialised, its name and number of parameters -/
def v_Y (y : MethodName) (ccy : ByteArray) (nLy : Nat) (ret : Option FieldType) (n : Nat) : Prop := Cond.code y ccy nLy ret ∈ v_bw ∧ Cond.initialized y.cls ∈ v_bw ∧ (y.cls ≠ "java/lang/invoke/MethodHandle" ∧ y.cls ≠ "java/lang/invoke/VarHandle" ∧ (parseMethodDescriptor y.desc).map (fun d => d.parameters.length) = some n) ∧ nLy ≤ 45
/-- the call: virtual, static, special; by a link of the class's own or by a nest mate's -/
def v_CV (own : String) (ix : Nat) (y : MethodName) : Prop := Cond.methodLink own ix y ∈ v_bw ∧ Cond.instanceMethod y ∈ v_bw ∧ Cond.selects y.cls y y ∈ v_bw
def v_CS (own : String) (ix : Nat) (y : MethodName) : Prop := Cond.methodLink own ix y ∈ v_bw ∧ Cond.static y ∈ v_bw
def v_CI (own : String) (ix : Nat) (y : MethodName) : Prop := Cond.methodLink own ix y ∈ v_bw ∧ Cond.instanceMethod y ∈ v_bw ∧ y.name = "<init>"
def v_CSN (own : String) (ix : Nat) (y : MethodName) (host : String) : Prop := Cond.methodLinkNest own ix y host ∈ tables_1 ∧ Cond.static y ∈ v_bw
def v_CIN (own : String) (ix : Nat) (y : MethodName) (host : String) : Prop := Cond.methodLinkNest own ix y host ∈ tables_1 ∧ Cond.instanceMethod y ∈ v_bw ∧ y.name = "<init>"
def v_Pc (E : v_E) (as : List Value) (sh : v_S) (P : v_P) (M : v_M) : Array Value → State → Prop := fun a s => a = as.toArray ∧ v_W E s ∧ v_R E sh P M s.heap
theorem v_blind {as : List Value} : FrameBlind (v_Pc E as sh P M) := fun a U g mk h => ⟨h.1, v_W.same (s := U) rfl h.2.1, h.2.2⟩
theorem v_goes {p : Program} {e : Env} {R : Room} {s : State} {m : MethodId} {args : Array Value} {below : List Frame} {meth : Method} {c : Code} {Q : State → Prop} {H : Heap} {locs : List Loc} {cells slots : Nat} {ls : Array Slot} {a : Array Value}
    (hr : va_Run p E.1 e R s m args below meth c H locs cells slots mc ms (F0 m pc ls st) rest (v_Qc E Qp a) (fun q => v_o E ≤ q)) (hl : lv_has ls c.maxLocals lv) (hlo : ∀ q ∈ locs, v_o E ≤ q.base) (hc : cells + b.1 ≤ R.cells) (hs : slots + b.2 ≤ R.slots) (hb : mc ≤ b.1 ∧ ms ≤ b.2)
    (kk : ∀ (v : Option Value) (sh' : v_S) (P' : v_P) (M' : v_M), Qp v sh' P' M' → V E (p, e, R, s, m, args, below, meth, c, Q) (b.1 - mc, b.2 - ms) (pc + 3) lv (v.toList ++ rest) sh' P' M') : W p E.1 e R s m args below meth c H locs cells slots Q (F0 m pc ls st) := by
  intro T hT Xs
  obtain ⟨v, st₀, t, T', L, h0, X', hL, e1, e2, ⟨v', sh', P', M', hv, hq, hR'⟩, stp⟩ := hr T hT Xs
  cases hv
  obtain ⟨t2, a1, b1⟩ := kk v sh' P' M' hq T'.heap (locs ++ L) (cells + mc) (slots + ms) ls hl (by rw [e1]; exact hR') (fun q hq => by
    rcases List.mem_append.mp hq with h | h
    · exact hlo q h
    · exact hL q h) (by show cells + mc + (b.1 - mc) ≤ R.cells; omega) (by show slots + ms + (b.2 - ms) ≤ R.slots; omega) T' rfl X'
  exact ⟨t2, stp t2 a1, b1⟩
theorem V.callV (hX : v_K E X cc own nL d) {ix q ci : Nat} (hm : v_Ct E d' y ccy nLy ret mc ms (v_rf E q :: As) sh P M Qp) (hY : v_Y y ccy nLy ret As.length) (hC : v_CV own ix y) (hci : ci < 13) (hcn : y.cls = v_cn ci) (hk : sh[q]? = some (0, ci)) (hd : decode cc pc = .ok (.invokevirtual ix, 3)) (hdd : d' + 1 ≤ d) (hst : st = As.reverse ++ v_rf E q :: rest) (hrs : (rest.map fun v => v.category).sum ≤ 8) (hb : mc ≤ b.1 ∧ ms ≤ b.2)
    (kk : ∀ (v : Option Value) (sh' : v_S) (P' : v_P) (M' : v_M), Qp v sh' P' M' → V E X (b.1 - mc, b.2 - ms) (pc + 3) lv (v.toList ++ rest) sh' P' M') : V E X b pc lv st sh P M := by
  obtain ⟨p, e, R, s, m, args, below, meth, c, Q⟩ := X
  intro H locs cells slots ls hl hR hlo hc hs
  have hts := hX.2.2.2.1
  have hfr : d ≤ R.frames := hX.2.2.2.2.2.2.1
  have hlc : 64 * d ≤ R.locals := hX.2.2.2.2.2.2.2.1
  obtain ⟨y1, y2, y3, y4⟩ := hY
  obtain ⟨c1, c2, c3⟩ := hC
  have hc : cells + b.1 ≤ R.cells := hc
  have hs : slots + b.2 ≤ R.slots := hs
  refine v_goes (mc := mc) (ms := ms) (va_runV (C := y.cls) (b := v_o E + q) (As := As) (rest := rest) (n := As.length) (Pc := v_Pc E (v_rf E q :: As) sh P M) (rm := { frames := d', cells := mc, slots := ms, locals := 64 * d' }) ⟨hX.1, hX.2.1, hX.2.2.2.2.2.1, hX.2.2.1, hts⟩ hm (cwV As.length hts ?_ rfl rfl rfl ⟨rfl, y3⟩ ⟨by show d' + 1 ≤ R.frames; omega, by show 8 + (nLy + 11) + 64 * d' ≤ R.locals; omega⟩) ⟨v_blind, ?_, fun U hU hW => ⟨rfl, hX.2.2.2.2.1.warm hW, by rw [hU]; exact hR⟩⟩ rfl rfl (by rw [← hX.2.2.2.2.2.1]; exact hl.1) hst (lv_room hrs) hd ⟨by omega, by omega⟩) hl hlo hc hs hb kk
  · intro w hw
    unfold wsV at hw
    rcases List.mem_append.mp hw with h | h
    · have h2 : w ∈ v_bw := by
        simp only [List.mem_cons, List.not_mem_nil, or_false] at h
        rcases h with rfl | rfl | rfl | rfl <;> assumption
      exact ⟨h2, good_of_word (List.mem_filter.mp h2).2⟩
    · exact v_good y1 w h
  · obtain ⟨-, cell, g1, g2, g3, -⟩ := hR.2.2 q _ hk
    exact ⟨cell, g1, by rw [g3]; rfl, by rw [g2, hcn]; exact (hX.2.2.2.2.1.1.1 ci _ (v_cl ci hci)).2.1⟩
theorem V.callS (hX : v_K E X cc own nL d) {ix : Nat} (hm : v_Ct E d' y ccy nLy ret mc ms As sh P M Qp) (hY : v_Y y ccy nLy ret As.length) (hC : v_CS own ix y) (hd : decode cc pc = .ok (.invokestatic ix, 3)) (hdd : d' + 1 ≤ d) (hst : st = As.reverse ++ rest) (hrs : (rest.map fun v => v.category).sum ≤ 8) (hb : mc ≤ b.1 ∧ ms ≤ b.2)
    (kk : ∀ (v : Option Value) (sh' : v_S) (P' : v_P) (M' : v_M), Qp v sh' P' M' → V E X (b.1 - mc, b.2 - ms) (pc + 3) lv (v.toList ++ rest) sh' P' M') : V E X b pc lv st sh P M := by
  obtain ⟨p, e, R, s, m, args, below, meth, c, Q⟩ := X
  intro H locs cells slots ls hl hR hlo hc hs
  have hts := hX.2.2.2.1
  have hfr : d ≤ R.frames := hX.2.2.2.2.2.2.1
  have hlc : 64 * d ≤ R.locals := hX.2.2.2.2.2.2.2.1
  obtain ⟨y1, y2, y3, y4⟩ := hY
  obtain ⟨c1, c2⟩ := hC
  have hc : cells + b.1 ≤ R.cells := hc
  have hs : slots + b.2 ≤ R.slots := hs
  exact v_goes (mc := mc) (ms := ms) (va_runS (As := As) (rest := rest) (n := As.length) (Pc := v_Pc E As sh P M) (rm := { frames := d', cells := mc, slots := ms, locals := 64 * d' }) ⟨hX.1, hX.2.1, hX.2.2.2.2.2.1, hX.2.2.1, hts⟩ hm ⟨callB_of As.length hts (v_good y1) rfl rfl rfl (hts _ y2) (hts _ c1) y3 ⟨by show d' + 1 ≤ R.frames; omega, by show 8 + (nLy + 11) + 64 * d' ≤ R.locals; omega⟩, hts _ c2⟩ ⟨v_blind, fun U hU hW => ⟨rfl, hX.2.2.2.2.1.warm hW, by rw [hU]; exact hR⟩⟩ rfl rfl (by rw [← hX.2.2.2.2.2.1]; exact hl.1) hst (lv_room hrs) hd ⟨by omega, by omega⟩) hl hlo hc hs hb kk
theorem V.callSN (hX : v_K E X cc own nL d) {ix : Nat} {host : String} (hm : v_Ct E d' y ccy nLy ret mc ms As sh P M Qp) (hY : v_Y y ccy nLy ret As.length) (hC : v_CSN own ix y host) (hd : decode cc pc = .ok (.invokestatic ix, 3)) (hdd : d' + 1 ≤ d) (hst : st = As.reverse ++ rest) (hrs : (rest.map fun v => v.category).sum ≤ 8) (hb : mc ≤ b.1 ∧ ms ≤ b.2)
    (kk : ∀ (v : Option Value) (sh' : v_S) (P' : v_P) (M' : v_M), Qp v sh' P' M' → V E X (b.1 - mc, b.2 - ms) (pc + 3) lv (v.toList ++ rest) sh' P' M') : V E X b pc lv st sh P M := by
  obtain ⟨p, e, R, s, m, args, below, meth, c, Q⟩ := X
  intro H locs cells slots ls hl hR hlo hc hs
  have hts := hX.2.2.2.1
  have hfr : d ≤ R.frames := hX.2.2.2.2.2.2.1
  have hlc : 64 * d ≤ R.locals := hX.2.2.2.2.2.2.2.1
  obtain ⟨y1, y2, y3, y4⟩ := hY
  obtain ⟨c1, c2⟩ := hC
  have hc : cells + b.1 ≤ R.cells := hc
  have hs : slots + b.2 ≤ R.slots := hs
  exact v_goes (mc := mc) (ms := ms) (va_runSN (As := As) (rest := rest) (n := As.length) (Pc := v_Pc E As sh P M) (rm := { frames := d', cells := mc, slots := ms, locals := 64 * d' }) ⟨hX.1, hX.2.1, hX.2.2.2.2.2.1, hX.2.2.1, hts⟩ hm ⟨va_cnB As.length hts (v_good y1) rfl rfl rfl (hX.2.2.2.2.1.2.1 _ c1 rfl) (hts _ y2) y3 ⟨by show d' + 1 ≤ R.frames; omega, by show 8 + (nLy + 11) + 64 * d' ≤ R.locals; omega⟩, hts _ c2, trivial⟩ ⟨v_blind, fun U hU hW => ⟨rfl, hX.2.2.2.2.1.warm hW, by rw [hU]; exact hR⟩⟩ rfl rfl (by rw [← hX.2.2.2.2.2.1]; exact hl.1) hst (lv_room hrs) hd ⟨by omega, by omega⟩) hl hlo hc hs hb kk
theorem V.callI (hX : v_K E X cc own nL d) {ix q : Nat} (hm : v_Ct E d' y ccy nLy none mc ms (v_rf E q :: As) sh P M Qp) (hY : v_Y y ccy nLy none As.length) (hC : v_CI own ix y) (hd : decode cc pc = .ok (.invokespecial ix, 3)) (hdd : d' + 1 ≤ d) (hst : st = As.reverse ++ v_rf E q :: rest) (hrs : (rest.map fun v => v.category).sum ≤ 8) (hb : mc ≤ b.1 ∧ ms ≤ b.2)
    (kk : ∀ (v : Option Value) (sh' : v_S) (P' : v_P) (M' : v_M), Qp v sh' P' M' → V E X (b.1 - mc, b.2 - ms) (pc + 3) lv (v.toList ++ rest) sh' P' M') : V E X b pc lv st sh P M := by
  obtain ⟨p, e, R, s, m, args, below, meth, c, Q⟩ := X
  intro H locs cells slots ls hl hR hlo hc hs
  have hts := hX.2.2.2.1
  have hfr : d ≤ R.frames := hX.2.2.2.2.2.2.1
  have hlc : 64 * d ≤ R.locals := hX.2.2.2.2.2.2.2.1
  obtain ⟨y1, y2, y3, y4⟩ := hY
  obtain ⟨c1, c2, c3⟩ := hC
  have hc : cells + b.1 ≤ R.cells := hc
  have hs : slots + b.2 ≤ R.slots := hs
  exact v_goes (mc := mc) (ms := ms) (va_runI (b := v_o E + q) (As := As) (rest := rest) (n := As.length) (Pc := v_Pc E (v_rf E q :: As) sh P M) (rm := { frames := d', cells := mc, slots := ms, locals := 64 * d' }) ⟨hX.1, hX.2.1, hX.2.2.2.2.2.1, hX.2.2.1, hts⟩ hm ⟨callB_of As.length hts (v_good y1) rfl rfl rfl (hts _ y2) (hts _ c1) y3 ⟨by show d' + 1 ≤ R.frames; omega, by show 8 + (nLy + 11) + 64 * d' ≤ R.locals; omega⟩, c3, hts _ c2⟩ ⟨v_blind, fun U hU hW => ⟨rfl, hX.2.2.2.2.1.warm hW, by rw [hU]; exact hR⟩⟩ rfl rfl (by rw [← hX.2.2.2.2.2.1]; exact hl.1) hst (lv_room hrs) hd ⟨by omega, by omega⟩) hl hlo hc hs hb kk
theorem V.callIN (hX : v_K E X cc own nL d) {ix q : Nat} {host : String} (hm : v_Ct E d' y ccy nLy none mc ms (v_rf E q :: As) sh P M Qp) (hY : v_Y y ccy nLy none As.length) (hC : v_CIN own ix y host) (hd : decode cc pc = .ok (.invokespecial ix, 3)) (hdd : d' + 1 ≤ d) (hst : st = As.reverse ++ v_rf E q :: rest) (hrs : (rest.map fun v => v.category).sum ≤ 8) (hb : mc ≤ b.1 ∧ ms ≤ b.2)
    (kk : ∀ (v : Option Value) (sh' : v_S) (P' : v_P) (M' : v_M), Qp v sh' P' M' → V E X (b.1 - mc, b.2 - ms) (pc + 3) lv (v.toList ++ rest) sh' P' M') : V E X b pc lv st sh P M := by
  obtain ⟨p, e, R, s, m, args, below, meth, c, Q⟩ := X
  intro H locs cells slots ls hl hR hlo hc hs
  have hts := hX.2.2.2.1
  have hfr : d ≤ R.frames := hX.2.2.2.2.2.2.1
  have hlc : 64 * d ≤ R.locals := hX.2.2.2.2.2.2.2.1
  obtain ⟨y1, y2, y3, y4⟩ := hY
  obtain ⟨c1, c2, c3⟩ := hC
  have hc : cells + b.1 ≤ R.cells := hc
  have hs : slots + b.2 ≤ R.slots := hs
  exact v_goes (mc := mc) (ms := ms) (va_runIN (b := v_o E + q) (As := As) (rest := rest) (n := As.length) (Pc := v_Pc E (v_rf E q :: As) sh P M) (rm := { frames := d', cells := mc, slots := ms, locals := 64 * d' }) ⟨hX.1, hX.2.1, hX.2.2.2.2.2.1, hX.2.2.1, hts⟩ hm ⟨va_cnB As.length hts (v_good y1) rfl rfl rfl (hX.2.2.2.2.1.2.1 _ c1 rfl) (hts _ y2) y3 ⟨by show d' + 1 ≤ R.frames; omega, by show 8 + (nLy + 11) + 64 * d' ≤ R.locals; omega⟩, c3, hts _ c2⟩ ⟨v_blind, fun U hU hW => ⟨rfl, hX.2.2.2.2.1.warm hW, by rw [hU]; exact hR⟩⟩ rfl rfl (by rw [← hX.2.2.2.2.2.1]; exact hl.1) hst (lv_room hrs) hd ⟨by omega, by omega⟩) hl hlo hc hs hb kk
/-- Object.<init> -/
theorem V.objI (hX : v_K E X cc own nL d) {ix q : Nat} (h1 : Cond.methodLink own ix objectInit ∈ v_bw) (h2 : Cond.instanceMethod objectInit ∈ v_bw) (h3 : Cond.code objectInit ⟨#[0xb1]⟩ 1 none ∈ v_bw) (hd : decode cc pc = .ok (.invokespecial ix, 3)) (hdd : 1 ≤ d) (hrs : (st.map fun v => v.category).sum ≤ 8) (kk : V E X b (pc + 3) lv st sh P M) : V E X b pc lv (v_rf E q :: st) sh P M := by
  obtain ⟨p, e, R, s, m, args, below, meth, c, Q⟩ := X
  intro H locs cells slots ls hl hR hlo hc hs
  have hts := hX.2.2.2.1
  have hfr : d ≤ R.frames := hX.2.2.2.2.2.2.1
  have hlc : 64 * d ≤ R.locals := hX.2.2.2.2.2.2.2.1
  have := lv_room (m := m) (pc := pc) (ls := ls) (rest := v_rf E q :: st) hrs
  exact W.objInit hX.1 hX.2.1 hX.2.2.1 (hts _ h1) (hts _ h2) (hts _ h3) rfl hl.1 rfl hd (by show 1 ≤ R.frames; omega) (by show 2 * (F0 m pc ls (v_rf E q :: st)).monitorRoom + (st.map fun v => v.category).sum + 12 ≤ R.locals; omega) (kk H locs cells slots ls hl hR hlo hc hs)
theorem V.iret {nm : String} (hX : v_O E X cc own nL d (some .int) nm Qp) {x : Int32} (hd : decode cc pc = .ok (.ireturn, 1)) (hq : Qp (some (.int x)) sh P M) : V E X b pc lv [.int x] sh P M := by
  obtain ⟨p, e, R, s, m, args, below, meth, c, Q⟩ := X
  intro H locs cells slots ls hl hR hlo hc hs
  obtain ⟨hK, hr, hlk, -, hQ⟩ := hX
  have hc : cells + b.1 ≤ R.cells := hc
  have hs : slots + b.2 ≤ R.slots := hs
  have hQ : Q = MQ below (v_Qc E Qp) args s R.cells R.slots (fun q => v_o E ≤ q) := hQ
  subst hQ
  refine W.widen (k := R.cells) (n := R.slots) (by omega) (by omega) ?_
  exact W.iret (v := x) hK.1 hK.2.1 hr (fun t ht _ => ⟨_, sh, P, M, rfl, hq, by rw [ht]; exact hR⟩) hlo hd hlk
theorem V.zret {nm : String} {ty : FieldType} (hX : v_O E X cc own nL d (some ty) nm Qp) {x : Int32} (hn : narrow ty (.int x) = .int x) (hd : decode cc pc = .ok (.ireturn, 1)) (hq : Qp (some (.int x)) sh P M) : V E X b pc lv [.int x] sh P M := by
  obtain ⟨p, e, R, s, m, args, below, meth, c, Q⟩ := X
  intro H locs cells slots ls hl hR hlo hc hs
  obtain ⟨hK, hr, hlk, -, hQ⟩ := hX
  have hc : cells + b.1 ≤ R.cells := hc
  have hs : slots + b.2 ≤ R.slots := hs
  have hQ : Q = MQ below (v_Qc E Qp) args s R.cells R.slots (fun q => v_o E ≤ q) := hQ
  subst hQ
  refine W.widen (k := R.cells) (n := R.slots) (by omega) (by omega) ?_
  exact W.zret (v := x) hK.1 hK.2.1 hr hn (fun t ht _ => ⟨_, sh, P, M, rfl, hq, by rw [ht]; exact hR⟩) hlo hd hlk
theorem V.lret {nm : String} (hX : v_O E X cc own nL d (some .long) nm Qp) {x : Int64} (hd : decode cc pc = .ok (.lreturn, 1)) (hq : Qp (some (.long x)) sh P M) : V E X b pc lv [.long x] sh P M := by
  obtain ⟨p, e, R, s, m, args, below, meth, c, Q⟩ := X
  intro H locs cells slots ls hl hR hlo hc hs
  obtain ⟨hK, hr, hlk, -, hQ⟩ := hX
  have hc : cells + b.1 ≤ R.cells := hc
  have hs : slots + b.2 ≤ R.slots := hs
  have hQ : Q = MQ below (v_Qc E Qp) args s R.cells R.slots (fun q => v_o E ≤ q) := hQ
  subst hQ
  refine W.widen (k := R.cells) (n := R.slots) (by omega) (by omega) ?_
  exact W.lret (v := x) hK.1 hK.2.1 hr (fun t ht _ => ⟨_, sh, P, M, rfl, hq, by rw [ht]; exact hR⟩) hlo hd hlk
theorem V.vret {nm : String} (hX : v_O E X cc own nL d none nm Qp) (hd : decode cc pc = .ok (.return_, 1)) (hq : Qp none sh P M) : V E X b pc lv [] sh P M := by
  obtain ⟨p, e, R, s, m, args, below, meth, c, Q⟩ := X
  intro H locs cells slots ls hl hR hlo hc hs
  obtain ⟨hK, hr, hlk, -, hQ⟩ := hX
  have hc : cells + b.1 ≤ R.cells := hc
  have hs : slots + b.2 ≤ R.slots := hs
  have hQ : Q = MQ below (v_Qc E Qp) args s R.cells R.slots (fun q => v_o E ≤ q) := hQ
  subst hQ
  refine W.widen (k := R.cells) (n := R.slots) (by omega) (by omega) ?_
  exact W.vret hK.1 hK.2.1 hr (fun t ht _ => ⟨_, sh, P, M, rfl, hq, by rw [ht]; exact hR⟩) hlo hd hlk
theorem V.aret {nm : String} {ty : FieldType} (hX : v_O E X cc own nL d (some ty) nm Qp) {v : Value} (ht : (∃ n, ty = .object n) ∨ ∃ t, ty = .array t) (hv : v = .null ∨ ∃ a, v = .ref a) (hd : decode cc pc = .ok (.areturn, 1)) (hq : Qp (some v) sh P M) : V E X b pc lv [v] sh P M := by
  obtain ⟨p, e, R, s, m, args, below, meth, c, Q⟩ := X
  intro H locs cells slots ls hl hR hlo hc hs
  obtain ⟨hK, hr, hlk, -, hQ⟩ := hX
  have hc : cells + b.1 ≤ R.cells := hc
  have hs : slots + b.2 ≤ R.slots := hs
  have hQ : Q = MQ below (v_Qc E Qp) args s R.cells R.slots (fun q => v_o E ≤ q) := hQ
  subst hQ
  refine W.widen (k := R.cells) (n := R.slots) (by omega) (by omega) ?_
  exact W.aret (v := v) hK.1 hK.2.1 hr ht hv (fun t ht _ => ⟨_, sh, P, M, rfl, hq, by rw [ht]; exact hR⟩) hlo hd hlk
end VR4
