def R_law : String := "NearlyShutLaw"
def lw_P (b : Addr) (xs : List Int32) (args : Array Value) (s : State) : Prop := args = #[.ref b] ∧ s.IntsAt b xs ∧ xs.length ≤ 4096 ∧ (Jvm.Cond.and given_1 narrow_1).before args s = true
def lw_Q (_ : Array Value) (s : State) (o : Outcome) (t : State) : Prop := o = .returned (some (.int 1)) ∧ Framed s o t [] 600000 7302250
def lw_Z (below : List Frame) (a : Array Value) (s : State) : State → Prop := fun t => ∃ o, t.status = .running ∧ Ended t below o ∧ lw_Q a s o t
/-- the law's own end, with 1 on the stack, nothing written that was there before, its room as the claim has it -/
theorem lw_ret {p : Program} {l : Launch} {e : Env} {s : State} {m : MethodId} {below : List Frame} {meth : Method} {c : Code} {b : Nat} (hx : p.tables.exec = Jvm.exec) (hb : c.code = code) (hr : meth.sig.returnType = ret) (hlocks : meth.locks = false) {pc : Nat} {H : Heap} {ls : Array Slot} (hdg : decode code pc = .ok (.ireturn, 1)) : W p l e room_1 s m #[Value.ref b] below meth c H [] 600000 7302250 (lw_Z below #[Value.ref b] s) (F0 m pc ls [.int 1]) := by
  intro T hT X
  obtain ⟨fs, hret, hrun, hended, hW, hframe⟩ := X.leave (v := some (.int 1)) (hlocks := hlocks) (fun h => by rw [hr] at h; cases h)
  have hmeth' : T.vm.method? m = some meth := X.method'
  refine ⟨T.setFrames fs, ?_, .returned (some (.int 1)), hrun, hended, rfl, ⟨_, rfl⟩, hW, hframe⟩
  jvm_step X.here [X.here.top, hx, hb, hdg, hmeth', hr, ret, narrow_b1]
  (try refine ⟨rfl, ?_⟩); (try refine ⟨rfl, ?_⟩)
  first | (intro acts; rw [hret _ acts rfl rfl rfl]) | rw [hret _ _ rfl rfl rfl]
  exact Steps.refl _
/-- what holds at the law's entry: the machine, the code, the tables' words (any of lw_tbl by 'hts w (by decide +kernel)'), the script of L ints xs at the cell b, what the Statement gives of the start (any of its parts by flat_of_before) -/
def lw_At (p : Program) (s : State) (m : MethodId) (meth : Method) (c : Code) (b L : Nat) (xs : Nat → Int32) : Prop :=
  p.tables.exec = Jvm.exec ∧ c.code = code ∧ meth.sig.returnType = ret ∧ c.maxLocals = 4 ∧ s.vm.findClass R_law = some m.cls ∧ (∀ w ∈ lw_tbl, w.before #[Value.ref b] s = true) ∧ va_X b L xs s s.heap ∧ b < s.heap.size ∧ meth.locks = false ∧ (Jvm.Cond.and given_1 narrow_1).before #[Value.ref b] s = true
/-! the whole walk, given an invariant that every step keeps -/
set_option maxHeartbeats 4000000 in
theorem whole_from {I : v_S → v_P → v_M → Prop} (hI : v_Good v_Nf I) (h0 : I z_B.1 z_B.2.1 z_M) {p : Program} {e : Env} {s : State} {m : MethodId} {below : List Frame} {meth : Method} {c : Code} (l : Launch) {b L : Nat} {xs : Nat → Int32} (hL : L ≤ 4096) (C0 : lw_At p s m meth c b L xs) : W p l e room_1 s m #[Value.ref b] below meth c s.heap [] 0 0 (lw_Z below #[Value.ref b] s) (entryFrame m ([Value.ref b] : List Value).toArray 4) := by
  obtain ⟨hx, hb, hr, hml, hfc, hts, hXs, hbs, hlk, hgv⟩ := C0
  obtain ⟨E, rfl, hE, hW⟩ := v_world l hts hgv
  have ho : v_o E = s.heap.size := by show E.2.2.2.1.size = _; rw [hE]
  let X : v_X := (p, e, room_1, s, m, #[Value.ref b], below, meth, c, lw_Z below #[Value.ref b] s)
  have hK : v_K E X cL_law RL 4 1300 := ⟨hx, hb, hfc, fun w hw => hts w (List.mem_filter.mp hw).1, hW, hml, (by show 1300 ≤ 2048; omega), (by show 64 * 1300 ≤ 84000; omega), fun q _ => by rw [hE], (by show v_o E ≤ s.heap.size; omega)⟩
  have hS : v_Sc E X b L xs := ⟨by rw [hE]; exact hXs, by rw [ho]; exact hbs⟩
  have hend : ∀ (bg : Nat × Nat) (i : Nat) (sh : v_S) (P : v_P) (M : v_M), V E X bg 1638 [(0, .ref b), (1, v_rf E 0), (2, v_rf E 79), (3, .int (nI i))] [] sh P M := by
    intro bg i sh P M
    refine V.iconst (pc := 1638) hK rfl dL_law_1638 ?_
    intro H locs cells slots ls hls hR hlo h1 h2
    refine va_forget (fun q hq => by have := hlo q hq; show s.heap.size ≤ q.base; omega) ?_
    refine W.widen (k := 600000) (n := 7302250) (by have : cells + bg.1 ≤ 600000 := h1; omega) (by have : slots + bg.2 ≤ 7302250 := h2; omega) ?_
    exact lw_ret hx hb hr hlk dL_law_1639
  have hV := law_start hI h0 hK hS hL hend
  have hl := lv_entry [Value.ref b] (n := 4) (by show 1 ≤ 4; omega)
  rw [lg_entry_eq]
  refine hV s.heap [] 0 0 _ ?_ ?_ (fun q h => by cases h) (by show 0 + 3734 ≤ 600000; omega) (by show 0 + 1039021 ≤ 7302250; omega)
  · show lv_has _ c.maxLocals _
    rw [hml]
    exact hl
  · refine ⟨fun q _ => by rw [hE], ?_, fun k q h => ?_⟩
    · rw [ho]; rfl
    · cases h
