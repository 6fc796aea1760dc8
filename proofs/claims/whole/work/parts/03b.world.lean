/-- what a cell is: object of class ci (0, ci), or array of n places: 1 int, 2 boolean, 3 byte, 4 long, 5 orders, 6 fleets -/
def v_fv (E : v_E) (P : v_P) (M : v_M) (ty : FieldType) (k j : Nat) : Value := match ty with
  | .long => .long (M.2 k j)
  | .object _ => v_rq E (P k j)
  | .array _ => v_rq E (P k j)
  | _ => .int (M.1 k j)
def v_av (E : v_E) (P : v_P) (M : v_M) (t k j : Nat) : Value := match t with
  | 4 => .long (M.2 k j)
  | 5 => v_rq E (P k j)
  | 6 => v_rq E (P k j)
  | _ => .int (M.1 k j)
def v_at (E : v_E) (P : v_P) (M : v_M) (H : Heap) (k : Nat) (q : Nat × Nat) : Prop := match q.1 with
  | 0 => q.2 < 13 ∧ t_OB (v_o E + k) (E.2.1.1 q.2) (v_N q.2) (E.2.1.2 q.2) H (fun j => v_fv E P M (v_ty q.2 j) k j)
  | t + 1 => H[v_o E + k]? = some (arrV (E.2.2.1 (t + 1)) q.2 (v_av E P M (t + 1) k))
theorem v_fv_eq {E : v_E} {P P' : v_P} {M M' : v_M} {k : Nat} (h1 : M'.1 k = M.1 k) (h2 : M'.2 k = M.2 k) (h3 : P' k = P k) (ty : FieldType) (j : Nat) : v_fv E P' M' ty k j = v_fv E P M ty k j := by
  unfold v_fv; split <;> simp only [h1, h2, h3]
theorem v_av_eq {E : v_E} {P P' : v_P} {M M' : v_M} {k : Nat} (h1 : M'.1 k = M.1 k) (h2 : M'.2 k = M.2 k) (h3 : P' k = P k) (t j : Nat) : v_av E P' M' t k j = v_av E P M t k j := by
  unfold v_av; split <;> simp only [h1, h2, h3]
theorem v_at.kept {E : v_E} {P P' : v_P} {M M' : v_M} {H H1 : Heap} {k : Nat} {q : Nat × Nat} (h : v_at E P M H k q) (hq : H1[v_o E + k]? = H[v_o E + k]?) (h1 : M'.1 k = M.1 k) (h2 : M'.2 k = M.2 k) (h3 : P' k = P k) : v_at E P' M' H1 k q := by
  obtain ⟨t, n⟩ := q
  cases t with
  | zero =>
    obtain ⟨a, b⟩ := h
    exact ⟨a, (b.kept hq).to (fun j _ => (v_fv_eq h1 h2 h3 _ j).symm)⟩
  | succ t =>
    have h : H[v_o E + k]? = some (arrV (E.2.2.1 (t + 1)) n (v_av E P M (t + 1) k)) := h
    show H1[v_o E + k]? = some (arrV (E.2.2.1 (t + 1)) n (v_av E P' M' (t + 1) k))
    rw [hq, h, show v_av E P' M' (t + 1) k = v_av E P M (t + 1) k from funext (fun j => v_av_eq h1 h2 h3 _ j)]
/-- the heap holds the memory -/
def v_R (E : v_E) (sh : v_S) (P : v_P) (M : v_M) (H : Heap) : Prop := (∀ q : Nat, q < v_o E → H[q]? = E.2.2.2.1[q]?) ∧ H.size = v_o E + sh.length ∧ ∀ (k : Nat) (q : Nat × Nat), sh[k]? = some q → v_at E P M H k q
theorem v_R.upd {E : v_E} {sh : v_S} {P P' : v_P} {M M' : v_M} {H H1 : Heap} {k : Nat} {q : Nat × Nat} (h : v_R E sh P M H) (hk : sh[k]? = some q) (hz : H1.size = H.size) (oq : ∀ x : Nat, x ≠ v_o E + k → H1[x]? = H[x]?)
    (h1 : ∀ j, j ≠ k → M'.1 j = M.1 j) (h2 : ∀ j, j ≠ k → M'.2 j = M.2 j) (h3 : ∀ j, j ≠ k → P' j = P j) (ha : v_at E P' M' H1 k q) : v_R E sh P' M' H1 := by
  refine ⟨fun x hx => (oq x (by omega)).trans (h.1 x hx), hz.trans h.2.1, fun j r hj => ?_⟩
  by_cases e : j = k
  · subst e
    cases hk.symm.trans hj
    exact ha
  · exact (h.2.2 j r hj).kept (oq _ (by omega)) (h1 j e) (h2 j e) (h3 j e)
theorem v_R.push {E : v_E} {sh : v_S} {P P' : v_P} {M M' : v_M} {H H1 : Heap} {q : Nat × Nat} (h : v_R E sh P M H) (hz : H1.size = H.size + 1) (oq : ∀ x : Nat, x < H.size → H1[x]? = H[x]?)
    (h1 : ∀ j, j < sh.length → M'.1 j = M.1 j) (h2 : ∀ j, j < sh.length → M'.2 j = M.2 j) (h3 : ∀ j, j < sh.length → P' j = P j) (ha : v_at E P' M' H1 sh.length q) : v_R E (sh ++ [q]) P' M' H1 := by
  have hs := h.2.1
  refine ⟨fun x hx => (oq x (by omega)).trans (h.1 x hx), by rw [hz, hs, List.length_append]; rfl, fun j r hj => ?_⟩
  by_cases e : j < sh.length
  · rw [List.getElem?_append_left e] at hj
    exact (h.2.2 j r hj).kept (oq _ (by omega)) (h1 j e) (h2 j e) (h3 j e)
  · rw [List.getElem?_append_right (by omega)] at hj
    have hl : j - sh.length < 1 := (List.getElem?_eq_some_iff.mp hj).1
    have e2 : j = sh.length := by omega
    subst e2
    rw [Nat.sub_self] at hj
    cases hj
    exact ha
/-- the world: classes and array classes, nest mates' links, String constants, a static -/
def v_tys (E : v_E) : List (ClassId × FieldType) := [(E.2.2.1 1, .int), (E.2.2.1 2, .boolean), (E.2.2.1 3, .byte), (E.2.2.1 4, .long), (E.2.2.1 5, .object "NearlyShut$Order"), (E.2.2.1 6, .object "NearlyShut$Fleet")]
def v_isN : Cond → Bool
  | .methodLinkNest .. => true
  | _ => false
def v_sx : List (String × Nat × String) := [("NearlyShut$Tape", 58, "must force look ground handle vent lamp window day machine flights bent wear done since within if or and not "), ("NearlyShutModel", 339, "must"), ("NearlyShutModel", 341, "force"), ("NearlyShutModel", 343, "look"), ("NearlyShutModel", 345, "ground"), ("NearlyShutModel", 450, "within"), ("NearlyShutModel", 328, "day"), ("NearlyShutModel", 330, "machine"), ("NearlyShutModel", 332, "flights"), ("NearlyShutModel", 333, "bent"), ("NearlyShutModel", 334, "wear"), ("NearlyShutModel", 335, "done"), ("NearlyShutModel", 337, "since"), ("NearlyShutModel", 347, "handle"), ("NearlyShutModel", 349, "vent"), ("NearlyShutModel", 351, "lamp"), ("NearlyShutModel", 353, "window"), ("NearlyShutModel", 457, "if"), ("NearlyShutModel", 429, "not"), ("NearlyShutModel", 443, "and"), ("NearlyShutModel", 445, "or")]
def v_sb : List (List Int32) := v_sx.map (fun q => q.2.2.toList.map (fun c => Int32.ofNat c.toNat))
def v_sn : List Nat := v_sb.map List.length
def v_W (E : v_E) (U : State) : Prop := va_K E.2.1 vwCl (v_tys E) U ∧ (∀ w ∈ tables_1, v_isN w = true → va_Nw w U) ∧ (va_AO "NearlyShut$Order" U ∧ va_AO "NearlyShut$Fleet" U) ∧
  (∀ (i : Nat) (q : String × Nat × String), v_sx[i]? = some q → vk_R q.1 q.2.1 q.2.2 (E.2.2.2.2.1 i) U) ∧ vk_S 21 v_sn v_sb E.2.2.2.2.1 E.2.2.2.2.2 (fun q => v_o E ≤ q) U E.2.2.2.1 ∧
  va_Z "java/lang/String" "COMPACT_STRINGS" "Z" (.int 1) (fun q => v_o E ≤ q) U E.2.2.2.1 ∧ ∃ z : Value, (z = .null ∨ ∃ a, z = .ref a) ∧ va_Z "jdk/internal/util/Preconditions" "SIOOBE_FORMATTER" "Ljava/util/function/BiFunction;" z (fun q => v_o E ≤ q) U E.2.2.2.1
theorem v_W.warm {E : v_E} {s U : State} (hW : s.WarmedH U.vm) (h : v_W E s) : v_W E U := by
  obtain ⟨h1, h2, ⟨h3, h4⟩, h5, h6, h7, z, hz, h8⟩ := h
  refine ⟨va_K.moved hW.alike h1, fun w hw hn => ?_, ⟨h3.moved hW.alike, h4.moved hW.alike⟩, fun i q hq => (h5 i q hq).warm hW, h6.moved hW.alike, h7.moved hW.alike, z, hz, h8.moved hW.alike⟩
  have := h2 w hw hn
  cases w <;> first | (cases hn; done) | exact va_Nw.warmM hW this
theorem v_W.same {E : v_E} {s U : State} (hv : U.vm = s.vm) (h : v_W E s) : v_W E U := by
  obtain ⟨h1, h2, ⟨h3, h4⟩, h5, h6, h7, z, hz, h8⟩ := h
  have ha : s.vm.Alike U.vm := by rw [hv]; exact Vm.Alike.refl _
  refine ⟨va_K.moved ha h1, fun w hw hn => ?_, ⟨h3.moved ha, h4.moved ha⟩, fun i q hq => (h5 i q hq).same hv, h6.moved ha, h7.moved ha, z, hz, h8.moved ha⟩
  have := h2 w hw hn
  cases w <;> first | (cases hn; done) | exact va_Nw.same rfl hv.symm this
/-- a method under way: program, environment, room, its start, its frame's method, arguments, the frames below, the method, its code, the aim -/
abbrev v_X : Type := Program × Env × Room × State × MethodId × Array Value × List Frame × Method × Code × (State → Prop)
/-- from here the aim is reached: budget of cells and slots, place, locals, stack, memory -/
def V (E : v_E) (X : v_X) (b : Nat × Nat) (pc : Nat) (lv : List (Nat × Value)) (st : List Value) (sh : v_S) (P : v_P) (M : v_M) : Prop :=
  ∀ (H : Heap) (locs : List Loc) (cells slots : Nat) (ls : Array Slot), lv_has ls X.2.2.2.2.2.2.2.2.1.maxLocals lv → v_R E sh P M H → (∀ q ∈ locs, v_o E ≤ q.base) → cells + b.1 ≤ X.2.2.1.cells → slots + b.2 ≤ X.2.2.1.slots →
    W X.1 E.1 X.2.1 X.2.2.1 X.2.2.2.1 X.2.2.2.2.1 X.2.2.2.2.2.1 X.2.2.2.2.2.2.1 X.2.2.2.2.2.2.2.1 X.2.2.2.2.2.2.2.2.1 H locs cells slots X.2.2.2.2.2.2.2.2.2 (F0 X.2.2.2.2.1 pc ls st)
/-- what a method under way knows: machine, code, class, words, world, room for d frames -/
def v_K (E : v_E) (X : v_X) (cc : ByteArray) (own : String) (nL d : Nat) : Prop :=
  X.1.tables.exec = Jvm.exec ∧ X.2.2.2.2.2.2.2.2.1.code = cc ∧ X.2.2.2.1.vm.findClass own = some X.2.2.2.2.1.cls ∧ (∀ w ∈ v_bw, w.before X.2.2.2.2.2.1 X.2.2.2.1 = true) ∧ v_W E X.2.2.2.1 ∧ X.2.2.2.2.2.2.2.2.1.maxLocals = nL ∧ d ≤ X.2.2.1.frames ∧ 64 * d ≤ X.2.2.1.locals ∧ (∀ q : Nat, q < v_o E → X.2.2.2.1.heap[q]? = E.2.2.2.1[q]?) ∧ v_o E ≤ X.2.2.2.1.heap.size
/-- a method's end: the answer and the memory behind it are as Qp says -/
def v_Qc (E : v_E) (Qp : Option Value → v_S → v_P → v_M → Prop) : Array Value → State → Outcome → State → Prop := fun _ _ oc t => ∃ (v : Option Value) (sh : v_S) (P : v_P) (M : v_M), oc = .returned v ∧ Qp v sh P M ∧ v_R E sh P M t.heap
/-- .. and how it may return -/
def v_O (E : v_E) (X : v_X) (cc : ByteArray) (own : String) (nL d : Nat) (ret : Option FieldType) (nm : String) (Qp : Option Value → v_S → v_P → v_M → Prop) : Prop :=
  v_K E X cc own nL d ∧ X.2.2.2.2.2.2.2.1.sig.returnType = ret ∧ X.2.2.2.2.2.2.2.1.locks = false ∧ X.2.2.2.2.2.2.2.1.name = nm ∧
  X.2.2.2.2.2.2.2.2.2 = MQ X.2.2.2.2.2.2.1 (v_Qc E Qp) X.2.2.2.2.2.1 X.2.2.2.1 X.2.2.1.cells X.2.2.1.slots (fun q => v_o E ≤ q)
/-- contract: called with as, from memory sh P M, y returns as Qp says, in d frames, with at most mc new cells of ms slots -/
def v_Ct (E : v_E) (d : Nat) (y : MethodName) (cc : ByteArray) (nL : Nat) (ret : Option FieldType) (mc ms : Nat) (as : List Value) (sh : v_S) (P : v_P) (M : v_M) (Qp : Option Value → v_S → v_P → v_M → Prop) : Prop :=
  Met E.1 y (Cond.code y cc nL ret :: v_bw) { frames := d, cells := mc, slots := ms, locals := 64 * d } (fun a s => a = as.toArray ∧ v_W E s ∧ v_R E sh P M s.heap) (v_Qc E Qp) mc ms (fun q => v_o E ≤ q)
theorem v_Ct.of {E : v_E} {d : Nat} {y : MethodName} {cc : ByteArray} {nL : Nat} {ret : Option FieldType} {mc ms : Nat} {as : List Value} {sh : v_S} {P : v_P} {M : v_M} {Qp : Option Value → v_S → v_P → v_M → Prop} (hy : plainName y.cls = true) (hn : (lg_sl as).length ≤ nL)
    (body : ∀ X : v_X, v_O E X cc y.cls nL d ret y.name Qp → V E X (mc, ms) 0 (lv_args 0 as) [] sh P M) : v_Ct E d y cc nL ret mc ms as sh P M Qp := by
  refine Met.ofW (cc := cc) (maxL := nL) (ret := ret) hy rfl ?_
  intro p e s m args below meth c s₁ B hml hv
  obtain ⟨rfl, hW, hR⟩ := hv
  have hts := atoms_spec (ws := Cond.code y cc nL ret :: v_bw) B.pre
  have hl := lv_entry as (n := nL) hn
  rw [lg_entry_eq]
  refine body (p, e, { frames := d, cells := mc, slots := ms, locals := 64 * d }, s, m, as.toArray, below, meth, c, MQ below (v_Qc E Qp) as.toArray s mc ms (fun q => v_o E ≤ q)) ⟨⟨B.exec, B.bytes, findClass_of_methodNamed B.named, fun w hw => hts w (List.mem_cons_of_mem _ hw), hW, hml, Nat.le_refl _, Nat.le_refl _, hR.1, by show v_o E ≤ s.heap.size; have := hR.2.1; omega⟩, B.returns, B.notSynchronized, (name_of_methodNamed B.named B.method).1, rfl⟩ s.heap [] 0 0 _ (by rw [hml]; exact hl) hR (fun q h => by cases h) (by show 0 + mc ≤ mc; omega) (by show 0 + ms ≤ ms; omega)
/-- nothing that a callee needs is wanting -/
theorem v_good {y : MethodName} {cc : ByteArray} {nL : Nat} {ret : Option FieldType} (hc : Cond.code y cc nL ret ∈ v_bw) : GoodIn v_bw (Cond.code y cc nL ret :: v_bw) := by
  intro w hw
  have h : w ∈ v_bw := by
    rcases List.mem_cons.mp hw with rfl | h
    · exact hc
    · exact h
  exact ⟨h, good_of_word (List.mem_filter.mp h).2⟩
