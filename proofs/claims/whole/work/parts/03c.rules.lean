section VR1
variable {E : v_E} {X : v_X} {cc : ByteArray} {own : String} {nL d : Nat} {b : Nat × Nat} {pc : Nat} {lv lv' : List (Nat × Value)} {st : List Value} {sh : v_S} {P : v_P} {M : v_M}
def v_lk (l : List (Nat × Value)) (i : Nat) : Option Value := match l with
  | [] => none
  | (j, v) :: t => bif Nat.beq j i then some v else v_lk t i
theorem v_lk_mem : ∀ {l : List (Nat × Value)} {i : Nat} {v : Value}, v_lk l i = some v → (i, v) ∈ l
  | (j, w) :: t, i, v, h => by
    unfold v_lk at h
    cases e : Nat.beq j i with
    | true =>
      rw [e] at h
      cases h
      rw [Nat.eq_of_beq_eq_true e]
      exact List.mem_cons_self
    | false =>
      rw [e] at h
      exact List.mem_cons_of_mem _ (v_lk_mem h)
def v_ins (i : Nat) (v : Value) : List (Nat × Value) → List (Nat × Value)
  | [] => [(i, v)]
  | (j, w) :: t => bif Nat.ble j i then (j, w) :: v_ins i v t else (i, v) :: (j, w) :: t
theorem v_ins_mem {i : Nat} {v : Value} : ∀ {l : List (Nat × Value)} {q : Nat × Value}, q ∈ v_ins i v l → q ∈ (i, v) :: l
  | [], q, h => h
  | (j, w) :: t, q, h => by
    unfold v_ins at h
    cases e : Nat.ble j i with
    | true =>
      rw [e] at h
      rcases List.mem_cons.mp h with rfl | h
      · exact List.mem_cons_of_mem _ List.mem_cons_self
      · rcases List.mem_cons.mp (v_ins_mem h) with rfl | h
        · exact List.mem_cons_self
        · exact List.mem_cons_of_mem _ (List.mem_cons_of_mem _ h)
    | false =>
      rw [e] at h
      exact h
def v_set (i : Nat) (v : Value) (l : List (Nat × Value)) : List (Nat × Value) := v_ins i v (l.filter (fun q => !(q.1 == i) && !(q.1 + 1 == i && q.2.category == 2)))
def v_setL (i : Nat) (v : Value) (l : List (Nat × Value)) : List (Nat × Value) := v_ins i v (l.filter (fun q => !(q.1 == i) && (!(q.1 == i + 1) && !(q.1 + 1 == i && q.2.category == 2))))
theorem v_has_ins {ls : Array Slot} {n i : Nat} {v : Value} {l : List (Nat × Value)} (h : lv_has ls n ((i, v) :: l)) : lv_has ls n (v_ins i v l) := ⟨h.1, h.2.1, fun q hq => h.2.2 q (v_ins_mem hq)⟩
theorem v_has_lk {ls : Array Slot} {n i : Nat} {v : Value} {l : List (Nat × Value)} (h : lv_has ls n l) (hk : v_lk l i = some v) : ls[i]? = some (.val v) := h.2.2 (i, v) (v_lk_mem hk)
/-- fewer locals, another order -/
theorem V.sub {l : List (Nat × Value)} (h : ∀ q ∈ l, v_lk lv q.1 = some q.2) (k : V E X b pc l st sh P M) : V E X b pc lv st sh P M := fun H locs cells slots ls hl => k H locs cells slots ls ⟨hl.1, hl.2.1, fun q hq => v_has_lk hl (h q hq)⟩
theorem V.eqM {M' : v_M} (h : M = M') (k : V E X b pc lv st sh P M') : V E X b pc lv st sh P M := h ▸ k
theorem V.topi {x : Int32} (k : ∀ z : Int32, z = x → V E X b pc lv (.int z :: st) sh P M) : V E X b pc lv (.int x :: st) sh P M := k x rfl
theorem V.topl {x : Int64} (k : ∀ z : Int64, z = x → V E X b pc lv (.long z :: st) sh P M) : V E X b pc lv (.long x :: st) sh P M := k x rfl
theorem V.nmM (k : ∀ z : v_M, z = M → V E X b pc lv st sh P z) : V E X b pc lv st sh P M := k M rfl
theorem V.iadd (hX : v_K E X cc own nL d) {x y : Int32} (hd : decode cc pc = .ok (.iadd, 1)) (k : V E X b (pc + 1) lv (.int (x + y) :: st) sh P M) : V E X b pc lv (.int y :: .int x :: st) sh P M := by
  obtain ⟨p, e, R, s, m, args, below, meth, c, Q⟩ := X
  intro H locs cells slots ls hl hR hlo hc hs
  exact lv_iadd hX.1 hX.2.1 hd (k H locs cells slots ls hl hR hlo hc hs)
theorem V.isub (hX : v_K E X cc own nL d) {x y : Int32} (hd : decode cc pc = .ok (.isub, 1)) (k : V E X b (pc + 1) lv (.int (x - y) :: st) sh P M) : V E X b pc lv (.int y :: .int x :: st) sh P M := by
  obtain ⟨p, e, R, s, m, args, below, meth, c, Q⟩ := X
  intro H locs cells slots ls hl hR hlo hc hs
  exact lv_isub hX.1 hX.2.1 hd (k H locs cells slots ls hl hR hlo hc hs)
theorem V.imul (hX : v_K E X cc own nL d) {x y : Int32} (hd : decode cc pc = .ok (.imul, 1)) (k : V E X b (pc + 1) lv (.int (x * y) :: st) sh P M) : V E X b pc lv (.int y :: .int x :: st) sh P M := by
  obtain ⟨p, e, R, s, m, args, below, meth, c, Q⟩ := X
  intro H locs cells slots ls hl hR hlo hc hs
  exact lv_imul hX.1 hX.2.1 hd (k H locs cells slots ls hl hR hlo hc hs)
theorem V.iand (hX : v_K E X cc own nL d) {x y : Int32} (hd : decode cc pc = .ok (.iand, 1)) (k : V E X b (pc + 1) lv (.int (x &&& y) :: st) sh P M) : V E X b pc lv (.int y :: .int x :: st) sh P M := by
  obtain ⟨p, e, R, s, m, args, below, meth, c, Q⟩ := X
  intro H locs cells slots ls hl hR hlo hc hs
  exact lv_iand hX.1 hX.2.1 hd (k H locs cells slots ls hl hR hlo hc hs)
theorem V.ior (hX : v_K E X cc own nL d) {x y : Int32} (hd : decode cc pc = .ok (.ior, 1)) (k : V E X b (pc + 1) lv (.int (x ||| y) :: st) sh P M) : V E X b pc lv (.int y :: .int x :: st) sh P M := by
  obtain ⟨p, e, R, s, m, args, below, meth, c, Q⟩ := X
  intro H locs cells slots ls hl hR hlo hc hs
  exact lv_ior hX.1 hX.2.1 hd (k H locs cells slots ls hl hR hlo hc hs)
theorem V.ixor (hX : v_K E X cc own nL d) {x y : Int32} (hd : decode cc pc = .ok (.ixor, 1)) (k : V E X b (pc + 1) lv (.int (x ^^^ y) :: st) sh P M) : V E X b pc lv (.int y :: .int x :: st) sh P M := by
  obtain ⟨p, e, R, s, m, args, below, meth, c, Q⟩ := X
  intro H locs cells slots ls hl hR hlo hc hs
  exact lv_ixor hX.1 hX.2.1 hd (k H locs cells slots ls hl hR hlo hc hs)
theorem V.ishl (hX : v_K E X cc own nL d) {x y : Int32} (hd : decode cc pc = .ok (.ishl, 1)) (k : V E X b (pc + 1) lv (.int (x <<< (y &&& 31)) :: st) sh P M) : V E X b pc lv (.int y :: .int x :: st) sh P M := by
  obtain ⟨p, e, R, s, m, args, below, meth, c, Q⟩ := X
  intro H locs cells slots ls hl hR hlo hc hs
  exact lv_ishl hX.1 hX.2.1 hd (k H locs cells slots ls hl hR hlo hc hs)
theorem V.ishr (hX : v_K E X cc own nL d) {x y : Int32} (hd : decode cc pc = .ok (.ishr, 1)) (k : V E X b (pc + 1) lv (.int (x >>> (y &&& 31)) :: st) sh P M) : V E X b pc lv (.int y :: .int x :: st) sh P M := by
  obtain ⟨p, e, R, s, m, args, below, meth, c, Q⟩ := X
  intro H locs cells slots ls hl hR hlo hc hs
  exact lv_ishr hX.1 hX.2.1 hd (k H locs cells slots ls hl hR hlo hc hs)
theorem V.iushr (hX : v_K E X cc own nL d) {x y : Int32} (hd : decode cc pc = .ok (.iushr, 1)) (k : V E X b (pc + 1) lv (.int (x.toUInt32 >>> (y.toUInt32 &&& Int32.toUInt32 31)).toInt32 :: st) sh P M) : V E X b pc lv (.int y :: .int x :: st) sh P M := by
  obtain ⟨p, e, R, s, m, args, below, meth, c, Q⟩ := X
  intro H locs cells slots ls hl hR hlo hc hs
  exact lv_iushr hX.1 hX.2.1 hd rfl (k H locs cells slots ls hl hR hlo hc hs)
theorem V.ladd (hX : v_K E X cc own nL d) {x y : Int64} (hd : decode cc pc = .ok (.ladd, 1)) (k : V E X b (pc + 1) lv (.long (x + y) :: st) sh P M) : V E X b pc lv (.long y :: .long x :: st) sh P M := by
  obtain ⟨p, e, R, s, m, args, below, meth, c, Q⟩ := X
  intro H locs cells slots ls hl hR hlo hc hs
  exact lv_ladd hX.1 hX.2.1 hd (k H locs cells slots ls hl hR hlo hc hs)
theorem V.lsub (hX : v_K E X cc own nL d) {x y : Int64} (hd : decode cc pc = .ok (.lsub, 1)) (k : V E X b (pc + 1) lv (.long (x - y) :: st) sh P M) : V E X b pc lv (.long y :: .long x :: st) sh P M := by
  obtain ⟨p, e, R, s, m, args, below, meth, c, Q⟩ := X
  intro H locs cells slots ls hl hR hlo hc hs
  exact lv_lsub hX.1 hX.2.1 hd (k H locs cells slots ls hl hR hlo hc hs)
theorem V.lmul (hX : v_K E X cc own nL d) {x y : Int64} (hd : decode cc pc = .ok (.lmul, 1)) (k : V E X b (pc + 1) lv (.long (x * y) :: st) sh P M) : V E X b pc lv (.long y :: .long x :: st) sh P M := by
  obtain ⟨p, e, R, s, m, args, below, meth, c, Q⟩ := X
  intro H locs cells slots ls hl hR hlo hc hs
  exact lv_lmul hX.1 hX.2.1 hd (k H locs cells slots ls hl hR hlo hc hs)
theorem V.land (hX : v_K E X cc own nL d) {x y : Int64} (hd : decode cc pc = .ok (.land, 1)) (k : V E X b (pc + 1) lv (.long (x &&& y) :: st) sh P M) : V E X b pc lv (.long y :: .long x :: st) sh P M := by
  obtain ⟨p, e, R, s, m, args, below, meth, c, Q⟩ := X
  intro H locs cells slots ls hl hR hlo hc hs
  exact lv_land hX.1 hX.2.1 hd (k H locs cells slots ls hl hR hlo hc hs)
theorem V.lor (hX : v_K E X cc own nL d) {x y : Int64} (hd : decode cc pc = .ok (.lor, 1)) (k : V E X b (pc + 1) lv (.long (x ||| y) :: st) sh P M) : V E X b pc lv (.long y :: .long x :: st) sh P M := by
  obtain ⟨p, e, R, s, m, args, below, meth, c, Q⟩ := X
  intro H locs cells slots ls hl hR hlo hc hs
  exact lv_lor hX.1 hX.2.1 hd (k H locs cells slots ls hl hR hlo hc hs)
theorem V.idiv (hX : v_K E X cc own nL d) {x y : Int32} (hne : ¬ y = 0) (hd : decode cc pc = .ok (.idiv, 1)) (k : V E X b (pc + 1) lv (.int (x / y) :: st) sh P M) : V E X b pc lv (.int y :: .int x :: st) sh P M := by
  obtain ⟨p, e, R, s, m, args, below, meth, c, Q⟩ := X
  intro H locs cells slots ls hl hR hlo hc hs
  exact lv_idiv hX.1 hX.2.1 hd hne (k H locs cells slots ls hl hR hlo hc hs)
theorem V.irem (hX : v_K E X cc own nL d) {x y : Int32} (hne : ¬ y = 0) (hd : decode cc pc = .ok (.irem, 1)) (k : V E X b (pc + 1) lv (.int (x - x / y * y) :: st) sh P M) : V E X b pc lv (.int y :: .int x :: st) sh P M := by
  obtain ⟨p, e, R, s, m, args, below, meth, c, Q⟩ := X
  intro H locs cells slots ls hl hR hlo hc hs
  exact lv_irem hX.1 hX.2.1 hd hne (k H locs cells slots ls hl hR hlo hc hs)
theorem V.ldiv (hX : v_K E X cc own nL d) {x y : Int64} (hne : ¬ y = 0) (hd : decode cc pc = .ok (.ldiv, 1)) (k : V E X b (pc + 1) lv (.long (x / y) :: st) sh P M) : V E X b pc lv (.long y :: .long x :: st) sh P M := by
  obtain ⟨p, e, R, s, m, args, below, meth, c, Q⟩ := X
  intro H locs cells slots ls hl hR hlo hc hs
  exact lv_ldiv hX.1 hX.2.1 hd hne (k H locs cells slots ls hl hR hlo hc hs)
theorem V.i2l (hX : v_K E X cc own nL d) {x : Int32} (hd : decode cc pc = .ok (.i2l, 1)) (k : V E X b (pc + 1) lv (.long x.toInt64 :: st) sh P M) : V E X b pc lv (.int x :: st) sh P M := by
  obtain ⟨p, e, R, s, m, args, below, meth, c, Q⟩ := X
  intro H locs cells slots ls hl hR hlo hc hs
  exact lv_i2l hX.1 hX.2.1 hd rfl (k H locs cells slots ls hl hR hlo hc hs)
theorem V.l2i (hX : v_K E X cc own nL d) {x : Int64} (hd : decode cc pc = .ok (.l2i, 1)) (k : V E X b (pc + 1) lv (.int x.toInt32 :: st) sh P M) : V E X b pc lv (.long x :: st) sh P M := by
  obtain ⟨p, e, R, s, m, args, below, meth, c, Q⟩ := X
  intro H locs cells slots ls hl hR hlo hc hs
  exact lv_l2i hX.1 hX.2.1 hd rfl (k H locs cells slots ls hl hR hlo hc hs)
theorem V.i2b (hX : v_K E X cc own nL d) {x : Int32} (hd : decode cc pc = .ok (.i2b, 1)) (k : V E X b (pc + 1) lv (.int x.toInt8.toInt32 :: st) sh P M) : V E X b pc lv (.int x :: st) sh P M := by
  obtain ⟨p, e, R, s, m, args, below, meth, c, Q⟩ := X
  intro H locs cells slots ls hl hR hlo hc hs
  exact lv_i2b hX.1 hX.2.1 hd rfl (k H locs cells slots ls hl hR hlo hc hs)
theorem V.i2c (hX : v_K E X cc own nL d) {x : Int32} (hd : decode cc pc = .ok (.i2c, 1)) (k : V E X b (pc + 1) lv (.int (x.toUInt32 % 65536).toInt32 :: st) sh P M) : V E X b pc lv (.int x :: st) sh P M := by
  obtain ⟨p, e, R, s, m, args, below, meth, c, Q⟩ := X
  intro H locs cells slots ls hl hR hlo hc hs
  exact lv_i2c hX.1 hX.2.1 hd rfl (k H locs cells slots ls hl hR hlo hc hs)
theorem V.lcmp (hX : v_K E X cc own nL d) {x y : Int64} (hd : decode cc pc = .ok (.lcmp, 1)) (k : V E X b (pc + 1) lv (.int (lg_cmp x y) :: st) sh P M) : V E X b pc lv (.long y :: .long x :: st) sh P M := by
  obtain ⟨p, e, R, s, m, args, below, meth, c, Q⟩ := X
  intro H locs cells slots ls hl hR hlo hc hs
  exact W.lcmp hX.1 hX.2.1 hd (k H locs cells slots ls hl hR hlo hc hs)
theorem V.iconst (hX : v_K E X cc own nL d) {n : Int} {v : Int32} (hv : Int32.ofInt n = v) (hd : decode cc pc = .ok (.iconst n, 1)) (k : V E X b (pc + 1) lv (.int v :: st) sh P M) : V E X b pc lv (st) sh P M := by
  obtain ⟨p, e, R, s, m, args, below, meth, c, Q⟩ := X
  intro H locs cells slots ls hl hR hlo hc hs
  exact lv_iconst hX.1 hX.2.1 hd hv (k H locs cells slots ls hl hR hlo hc hs)
theorem V.bipush (hX : v_K E X cc own nL d) {n : Int} {v : Int32} (hv : (Int8.ofInt n).toInt32 = v) (hd : decode cc pc = .ok (.bipush n, 2)) (k : V E X b (pc + 2) lv (.int v :: st) sh P M) : V E X b pc lv (st) sh P M := by
  obtain ⟨p, e, R, s, m, args, below, meth, c, Q⟩ := X
  intro H locs cells slots ls hl hR hlo hc hs
  exact lv_bipush hX.1 hX.2.1 hd hv (k H locs cells slots ls hl hR hlo hc hs)
theorem V.sipush (hX : v_K E X cc own nL d) {n : Int} {v : Int32} (hv : (Int16.ofInt n).toInt32 = v) (hd : decode cc pc = .ok (.sipush n, 3)) (k : V E X b (pc + 3) lv (.int v :: st) sh P M) : V E X b pc lv (st) sh P M := by
  obtain ⟨p, e, R, s, m, args, below, meth, c, Q⟩ := X
  intro H locs cells slots ls hl hR hlo hc hs
  exact lv_sipush hX.1 hX.2.1 hd hv (k H locs cells slots ls hl hR hlo hc hs)
theorem V.lconst (hX : v_K E X cc own nL d) {n : Fin 2} {v : Int64} (hv : Int64.ofNat (n : Nat) = v) (hd : decode cc pc = .ok (.lconst n, 1)) (k : V E X b (pc + 1) lv (.long v :: st) sh P M) : V E X b pc lv (st) sh P M := by
  obtain ⟨p, e, R, s, m, args, below, meth, c, Q⟩ := X
  intro H locs cells slots ls hl hR hlo hc hs
  exact lv_lconst hX.1 hX.2.1 hd hv (k H locs cells slots ls hl hR hlo hc hs)
theorem V.ldc (hX : v_K E X cc own nL d) {ix : Nat} {v : Int32} (hc0 : Cond.constant own ix v ∈ v_bw) (hd : decode cc pc = .ok (.ldc ix, 2)) (k : V E X b (pc + 2) lv (.int v :: st) sh P M) : V E X b pc lv (st) sh P M := by
  obtain ⟨p, e, R, s, m, args, below, meth, c, Q⟩ := X
  intro H locs cells slots ls hl hR hlo hc hs
  exact lv_ldc hX.1 hX.2.1 hX.2.2.1 (hX.2.2.2.1 _ hc0) hd (k H locs cells slots ls hl hR hlo hc hs)
theorem V.ldcw (hX : v_K E X cc own nL d) {ix : Nat} {v : Int32} (hc0 : Cond.constant own ix v ∈ v_bw) (hd : decode cc pc = .ok (.ldc_w ix, 3)) (k : V E X b (pc + 3) lv (.int v :: st) sh P M) : V E X b pc lv (st) sh P M := by
  obtain ⟨p, e, R, s, m, args, below, meth, c, Q⟩ := X
  intro H locs cells slots ls hl hR hlo hc hs
  exact lv_ldcw hX.1 hX.2.1 hX.2.2.1 (hX.2.2.2.1 _ hc0) hd (k H locs cells slots ls hl hR hlo hc hs)
theorem V.ldc2 (hX : v_K E X cc own nL d) {ix : Nat} {v : Int64} (hc0 : Cond.constantLong own ix v ∈ v_bw) (hd : decode cc pc = .ok (.ldc2_w ix, 3)) (k : V E X b (pc + 3) lv (.long v :: st) sh P M) : V E X b pc lv (st) sh P M := by
  obtain ⟨p, e, R, s, m, args, below, meth, c, Q⟩ := X
  intro H locs cells slots ls hl hR hlo hc hs
  exact lv_ldc2 hX.1 hX.2.1 hX.2.2.1 (hX.2.2.2.1 _ hc0) hd (k H locs cells slots ls hl hR hlo hc hs)
theorem V.ldcS (hX : v_K E X cc own nL d) {ix i : Nat} {tx : String} (hq : v_sx[i]? = some (own, ix, tx)) (hd : decode cc pc = .ok (.ldc ix, 2)) (k : V E X b (pc + 2) lv (v_st E i :: st) sh P M) : V E X b pc lv (st) sh P M := by
  obtain ⟨p, e, R, s, m, args, below, meth, c, Q⟩ := X
  intro H locs cells slots ls hl hR hlo hc hs
  exact va_ldcS hX.1 hX.2.1 hX.2.2.1 (hX.2.2.2.2.1.2.2.2.1 i _ hq) hd (k H locs cells slots ls hl hR hlo hc hs)
theorem V.iload (hX : v_K E X cc own nL d) {i : Nat} {x : Int32} (hk : v_lk lv i = some (.int x)) (hd : decode cc pc = .ok (.iload i, 2)) (k : V E X b (pc + 2) lv (.int x :: st) sh P M) : V E X b pc lv (st) sh P M := by
  obtain ⟨p, e, R, s, m, args, below, meth, c, Q⟩ := X
  intro H locs cells slots ls hl hR hlo hc hs
  exact lv_iload hX.1 hX.2.1 hd (v_has_lk hl hk) (k H locs cells slots ls hl hR hlo hc hs)
theorem V.iload_n (hX : v_K E X cc own nL d) {i : Fin 4} {x : Int32} (hk : v_lk lv i = some (.int x)) (hd : decode cc pc = .ok (.iload_n i, 1)) (k : V E X b (pc + 1) lv (.int x :: st) sh P M) : V E X b pc lv (st) sh P M := by
  obtain ⟨p, e, R, s, m, args, below, meth, c, Q⟩ := X
  intro H locs cells slots ls hl hR hlo hc hs
  exact lv_iload_n hX.1 hX.2.1 hd rfl (v_has_lk hl hk) (k H locs cells slots ls hl hR hlo hc hs)
theorem V.lload (hX : v_K E X cc own nL d) {i : Nat} {x : Int64} (hk : v_lk lv i = some (.long x)) (hd : decode cc pc = .ok (.lload i, 2)) (k : V E X b (pc + 2) lv (.long x :: st) sh P M) : V E X b pc lv (st) sh P M := by
  obtain ⟨p, e, R, s, m, args, below, meth, c, Q⟩ := X
  intro H locs cells slots ls hl hR hlo hc hs
  exact lv_lload hX.1 hX.2.1 hd (v_has_lk hl hk) (k H locs cells slots ls hl hR hlo hc hs)
theorem V.lload_n (hX : v_K E X cc own nL d) {i : Fin 4} {x : Int64} (hk : v_lk lv i = some (.long x)) (hd : decode cc pc = .ok (.lload_n i, 1)) (k : V E X b (pc + 1) lv (.long x :: st) sh P M) : V E X b pc lv (st) sh P M := by
  obtain ⟨p, e, R, s, m, args, below, meth, c, Q⟩ := X
  intro H locs cells slots ls hl hR hlo hc hs
  exact lv_lload_n hX.1 hX.2.1 hd rfl (v_has_lk hl hk) (k H locs cells slots ls hl hR hlo hc hs)
theorem V.aload (hX : v_K E X cc own nL d) {i : Nat} {v : Value} (hk : v_lk lv i = some v) (hv : ∃ a, v = .ref a) (hd : decode cc pc = .ok (.aload i, 2)) (k : V E X b (pc + 2) lv (v :: st) sh P M) : V E X b pc lv st sh P M := by
  obtain ⟨a, rfl⟩ := hv
  obtain ⟨p, e, R, s, m, args, below, meth, c, Q⟩ := X
  intro H locs cells slots ls hl hR hlo hc hs
  exact lv_aload hX.1 hX.2.1 hd (v_has_lk hl hk) (k H locs cells slots ls hl hR hlo hc hs)
theorem V.aloadN (hX : v_K E X cc own nL d) {i : Nat} (hk : v_lk lv i = some .null) (hd : decode cc pc = .ok (.aload i, 2)) (k : V E X b (pc + 2) lv (.null :: st) sh P M) : V E X b pc lv st sh P M := by
  obtain ⟨p, e, R, s, m, args, below, meth, c, Q⟩ := X
  intro H locs cells slots ls hl hR hlo hc hs
  exact lv_aloadN hX.1 hX.2.1 hd (v_has_lk hl hk) (k H locs cells slots ls hl hR hlo hc hs)
theorem V.aload_n (hX : v_K E X cc own nL d) {i : Fin 4} {v : Value} (hk : v_lk lv i = some v) (hv : ∃ a, v = .ref a) (hd : decode cc pc = .ok (.aload_n i, 1)) (k : V E X b (pc + 1) lv (v :: st) sh P M) : V E X b pc lv st sh P M := by
  obtain ⟨a, rfl⟩ := hv
  obtain ⟨p, e, R, s, m, args, below, meth, c, Q⟩ := X
  intro H locs cells slots ls hl hR hlo hc hs
  exact lv_aload_n hX.1 hX.2.1 hd rfl (v_has_lk hl hk) (k H locs cells slots ls hl hR hlo hc hs)
theorem V.aload_nN (hX : v_K E X cc own nL d) {i : Fin 4} (hk : v_lk lv i = some .null) (hd : decode cc pc = .ok (.aload_n i, 1)) (k : V E X b (pc + 1) lv (.null :: st) sh P M) : V E X b pc lv st sh P M := by
  obtain ⟨p, e, R, s, m, args, below, meth, c, Q⟩ := X
  intro H locs cells slots ls hl hR hlo hc hs
  exact lv_aload_nN hX.1 hX.2.1 hd rfl (v_has_lk hl hk) (k H locs cells slots ls hl hR hlo hc hs)
theorem V.istore (hX : v_K E X cc own nL d) {i : Nat} {x : Int32} (hi : i < nL) (hv : v_set i (.int x) lv = lv') (hd : decode cc pc = .ok (.istore i, 2)) (k : V E X b (pc + 2) lv' st sh P M) : V E X b pc lv (.int x :: st) sh P M := by
  obtain ⟨p, e, R, s, m, args, below, meth, c, Q⟩ := X
  intro H locs cells slots ls hl hR hlo hc hs
  have hn : c.maxLocals = nL := hX.2.2.2.2.2.1
  subst hv
  exact lv_istore hX.1 hX.2.1 hd hl (by rw [← hn] at hi; exact hi) rfl (fun ls2 hl2 => k H locs cells slots ls2 (v_has_ins hl2) hR hlo hc hs)
theorem V.istore_n (hX : v_K E X cc own nL d) {i : Fin 4} {x : Int32} (hi : (i : Nat) < nL) (hv : v_set i (.int x) lv = lv') (hd : decode cc pc = .ok (.istore_n i, 1)) (k : V E X b (pc + 1) lv' st sh P M) : V E X b pc lv (.int x :: st) sh P M := by
  obtain ⟨p, e, R, s, m, args, below, meth, c, Q⟩ := X
  intro H locs cells slots ls hl hR hlo hc hs
  have hn : c.maxLocals = nL := hX.2.2.2.2.2.1
  subst hv
  exact lv_istore_n hX.1 hX.2.1 hd rfl hl (by rw [← hn] at hi; exact hi) rfl (fun ls2 hl2 => k H locs cells slots ls2 (v_has_ins hl2) hR hlo hc hs)
theorem V.lstore (hX : v_K E X cc own nL d) {i : Nat} {x : Int64} (hi : i + 1 < nL) (hv : v_setL i (.long x) lv = lv') (hd : decode cc pc = .ok (.lstore i, 2)) (k : V E X b (pc + 2) lv' st sh P M) : V E X b pc lv (.long x :: st) sh P M := by
  obtain ⟨p, e, R, s, m, args, below, meth, c, Q⟩ := X
  intro H locs cells slots ls hl hR hlo hc hs
  have hn : c.maxLocals = nL := hX.2.2.2.2.2.1
  subst hv
  exact lv_lstore hX.1 hX.2.1 hd hl (by rw [← hn] at hi; exact hi) rfl (fun ls2 hl2 => k H locs cells slots ls2 (v_has_ins hl2) hR hlo hc hs)
theorem V.lstore_n (hX : v_K E X cc own nL d) {i : Fin 4} {x : Int64} (hi : (i : Nat) + 1 < nL) (hv : v_setL i (.long x) lv = lv') (hd : decode cc pc = .ok (.lstore_n i, 1)) (k : V E X b (pc + 1) lv' st sh P M) : V E X b pc lv (.long x :: st) sh P M := by
  obtain ⟨p, e, R, s, m, args, below, meth, c, Q⟩ := X
  intro H locs cells slots ls hl hR hlo hc hs
  have hn : c.maxLocals = nL := hX.2.2.2.2.2.1
  subst hv
  exact lv_lstore_n hX.1 hX.2.1 hd rfl hl (by rw [← hn] at hi; exact hi) rfl (fun ls2 hl2 => k H locs cells slots ls2 (v_has_ins hl2) hR hlo hc hs)
theorem V.astore (hX : v_K E X cc own nL d) {i : Nat} {v : Value} (hr : ∃ a, v = .ref a) (hi : (i : Nat) < nL) (hv : v_set i v lv = lv') (hd : decode cc pc = .ok (.astore i, 2)) (k : V E X b (pc + 2) lv' st sh P M) : V E X b pc lv (v :: st) sh P M := by
  obtain ⟨a, rfl⟩ := hr
  obtain ⟨p, e, R, s, m, args, below, meth, c, Q⟩ := X
  intro H locs cells slots ls hl hR hlo hc hs
  have hn : c.maxLocals = nL := hX.2.2.2.2.2.1
  subst hv
  exact lv_astore hX.1 hX.2.1 hd hl (by rw [← hn] at hi; exact hi) rfl (fun ls2 hl2 => k H locs cells slots ls2 (v_has_ins hl2) hR hlo hc hs)
theorem V.astoreN (hX : v_K E X cc own nL d) {i : Nat} (hi : (i : Nat) < nL) (hv : v_set i .null lv = lv') (hd : decode cc pc = .ok (.astore i, 2)) (k : V E X b (pc + 2) lv' st sh P M) : V E X b pc lv (.null :: st) sh P M := by
  obtain ⟨p, e, R, s, m, args, below, meth, c, Q⟩ := X
  intro H locs cells slots ls hl hR hlo hc hs
  have hn : c.maxLocals = nL := hX.2.2.2.2.2.1
  subst hv
  exact lv_astoreN hX.1 hX.2.1 hd hl (by rw [← hn] at hi; exact hi) rfl (fun ls2 hl2 => k H locs cells slots ls2 (v_has_ins hl2) hR hlo hc hs)
theorem V.astore_n (hX : v_K E X cc own nL d) {i : Fin 4} {v : Value} (hr : ∃ a, v = .ref a) (hi : (i : Nat) < nL) (hv : v_set i v lv = lv') (hd : decode cc pc = .ok (.astore_n i, 1)) (k : V E X b (pc + 1) lv' st sh P M) : V E X b pc lv (v :: st) sh P M := by
  obtain ⟨a, rfl⟩ := hr
  obtain ⟨p, e, R, s, m, args, below, meth, c, Q⟩ := X
  intro H locs cells slots ls hl hR hlo hc hs
  have hn : c.maxLocals = nL := hX.2.2.2.2.2.1
  subst hv
  exact lv_astore_n hX.1 hX.2.1 hd rfl hl (by rw [← hn] at hi; exact hi) rfl (fun ls2 hl2 => k H locs cells slots ls2 (v_has_ins hl2) hR hlo hc hs)
theorem V.astore_nN (hX : v_K E X cc own nL d) {i : Fin 4} (hi : (i : Nat) < nL) (hv : v_set i .null lv = lv') (hd : decode cc pc = .ok (.astore_n i, 1)) (k : V E X b (pc + 1) lv' st sh P M) : V E X b pc lv (.null :: st) sh P M := by
  obtain ⟨p, e, R, s, m, args, below, meth, c, Q⟩ := X
  intro H locs cells slots ls hl hR hlo hc hs
  have hn : c.maxLocals = nL := hX.2.2.2.2.2.1
  subst hv
  exact lv_astore_nN hX.1 hX.2.1 hd rfl hl (by rw [← hn] at hi; exact hi) rfl (fun ls2 hl2 => k H locs cells slots ls2 (v_has_ins hl2) hR hlo hc hs)
theorem V.iinc (hX : v_K E X cc own nL d) {i : Nat} {n : Int} {x v : Int32} (hk : v_lk lv i = some (.int x)) (hn : Int32.ofInt n = v) (hi : i < nL) (hv : v_set i (.int (x + v)) lv = lv') (hd : decode cc pc = .ok (.iinc i n, 3)) (k : V E X b (pc + 3) lv' st sh P M) : V E X b pc lv st sh P M := by
  obtain ⟨p, e, R, s, m, args, below, meth, c, Q⟩ := X
  intro H locs cells slots ls hl hR hlo hc hs
  have hn2 : c.maxLocals = nL := hX.2.2.2.2.2.1
  subst hv
  subst hn
  obtain ⟨j, hj⟩ := List.getElem?_of_mem (v_lk_mem hk)
  exact lv_iinc hX.1 hX.2.1 hd hl hj rfl (by rw [← hn2] at hi; exact hi) rfl (fun ls2 hl2 => k H locs cells slots ls2 (v_has_ins hl2) hR hlo hc hs)
theorem V.dup (hX : v_K E X cc own nL d) {v : Value} (hv : v.category = 1) (hd : decode cc pc = .ok (.dup, 1)) (k : V E X b (pc + 1) lv (v :: v :: st) sh P M) : V E X b pc lv (v :: st) sh P M := by
  obtain ⟨p, e, R, s, m, args, below, meth, c, Q⟩ := X
  intro H locs cells slots ls hl hR hlo hc hs
  exact lv_dup hX.1 hX.2.1 hd hv (k H locs cells slots ls hl hR hlo hc hs)
theorem V.pop (hX : v_K E X cc own nL d) {v : Value} (hv : v.category = 1) (hd : decode cc pc = .ok (.pop, 1)) (k : V E X b (pc + 1) lv (st) sh P M) : V E X b pc lv (v :: st) sh P M := by
  obtain ⟨p, e, R, s, m, args, below, meth, c, Q⟩ := X
  intro H locs cells slots ls hl hR hlo hc hs
  exact lv_pop hX.1 hX.2.1 hd hv (k H locs cells slots ls hl hR hlo hc hs)
theorem V.dup2 (hX : v_K E X cc own nL d) {v w : Value} (hv : v.category = 1) (hw : w.category = 1) (hd : decode cc pc = .ok (.dup2, 1)) (k : V E X b (pc + 1) lv (v :: w :: v :: w :: st) sh P M) : V E X b pc lv (v :: w :: st) sh P M := by
  obtain ⟨p, e, R, s, m, args, below, meth, c, Q⟩ := X
  intro H locs cells slots ls hl hR hlo hc hs
  exact lv_dup2_11 hX.1 hX.2.1 hd hv hw (k H locs cells slots ls hl hR hlo hc hs)
theorem V.if_eq (hX : v_K E X cc own nL d) {x : Int32} {off : Int} {tgt : Nat} (hd : decode cc pc = .ok (.ifCond .eq off, 3)) (ht : (pc : Int) + off = (tgt : Int)) (kt : x = 0 → V E X b tgt lv st sh P M) (kf : ¬ x = 0 → V E X b (pc + 3) lv st sh P M) : V E X b pc lv (.int x :: st) sh P M := by
  obtain ⟨p, e, R, s, m, args, below, meth, c, Q⟩ := X
  intro H locs cells slots ls hl hR hlo hc hs
  exact lv_if_eq hX.1 hX.2.1 hd ht (fun z => kt z H locs cells slots ls hl hR hlo hc hs) (fun z => kf z H locs cells slots ls hl hR hlo hc hs)
theorem V.icmp_eq (hX : v_K E X cc own nL d) {x y : Int32} {off : Int} {tgt : Nat} (hd : decode cc pc = .ok (.if_icmp .eq off, 3)) (ht : (pc : Int) + off = (tgt : Int)) (kt : x = y → V E X b tgt lv st sh P M) (kf : ¬ x = y → V E X b (pc + 3) lv st sh P M) : V E X b pc lv (.int y :: .int x :: st) sh P M := by
  obtain ⟨p, e, R, s, m, args, below, meth, c, Q⟩ := X
  intro H locs cells slots ls hl hR hlo hc hs
  exact lv_icmp_eq hX.1 hX.2.1 hd ht (fun z => kt z H locs cells slots ls hl hR hlo hc hs) (fun z => kf z H locs cells slots ls hl hR hlo hc hs)
theorem V.if_ne (hX : v_K E X cc own nL d) {x : Int32} {off : Int} {tgt : Nat} (hd : decode cc pc = .ok (.ifCond .ne off, 3)) (ht : (pc : Int) + off = (tgt : Int)) (kt : ¬ x = 0 → V E X b tgt lv st sh P M) (kf : x = 0 → V E X b (pc + 3) lv st sh P M) : V E X b pc lv (.int x :: st) sh P M := by
  obtain ⟨p, e, R, s, m, args, below, meth, c, Q⟩ := X
  intro H locs cells slots ls hl hR hlo hc hs
  exact lv_if_ne hX.1 hX.2.1 hd ht (fun z => kt z H locs cells slots ls hl hR hlo hc hs) (fun z => kf z H locs cells slots ls hl hR hlo hc hs)
theorem V.icmp_ne (hX : v_K E X cc own nL d) {x y : Int32} {off : Int} {tgt : Nat} (hd : decode cc pc = .ok (.if_icmp .ne off, 3)) (ht : (pc : Int) + off = (tgt : Int)) (kt : ¬ x = y → V E X b tgt lv st sh P M) (kf : x = y → V E X b (pc + 3) lv st sh P M) : V E X b pc lv (.int y :: .int x :: st) sh P M := by
  obtain ⟨p, e, R, s, m, args, below, meth, c, Q⟩ := X
  intro H locs cells slots ls hl hR hlo hc hs
  exact lv_icmp_ne hX.1 hX.2.1 hd ht (fun z => kt z H locs cells slots ls hl hR hlo hc hs) (fun z => kf z H locs cells slots ls hl hR hlo hc hs)
theorem V.if_lt (hX : v_K E X cc own nL d) {x : Int32} {off : Int} {tgt : Nat} (hd : decode cc pc = .ok (.ifCond .lt off, 3)) (ht : (pc : Int) + off = (tgt : Int)) (kt : x < 0 → V E X b tgt lv st sh P M) (kf : ¬ x < 0 → V E X b (pc + 3) lv st sh P M) : V E X b pc lv (.int x :: st) sh P M := by
  obtain ⟨p, e, R, s, m, args, below, meth, c, Q⟩ := X
  intro H locs cells slots ls hl hR hlo hc hs
  exact lv_if_lt hX.1 hX.2.1 hd ht (fun z => kt z H locs cells slots ls hl hR hlo hc hs) (fun z => kf z H locs cells slots ls hl hR hlo hc hs)
theorem V.icmp_lt (hX : v_K E X cc own nL d) {x y : Int32} {off : Int} {tgt : Nat} (hd : decode cc pc = .ok (.if_icmp .lt off, 3)) (ht : (pc : Int) + off = (tgt : Int)) (kt : x < y → V E X b tgt lv st sh P M) (kf : ¬ x < y → V E X b (pc + 3) lv st sh P M) : V E X b pc lv (.int y :: .int x :: st) sh P M := by
  obtain ⟨p, e, R, s, m, args, below, meth, c, Q⟩ := X
  intro H locs cells slots ls hl hR hlo hc hs
  exact lv_icmp_lt hX.1 hX.2.1 hd ht (fun z => kt z H locs cells slots ls hl hR hlo hc hs) (fun z => kf z H locs cells slots ls hl hR hlo hc hs)
theorem V.if_ge (hX : v_K E X cc own nL d) {x : Int32} {off : Int} {tgt : Nat} (hd : decode cc pc = .ok (.ifCond .ge off, 3)) (ht : (pc : Int) + off = (tgt : Int)) (kt : 0 ≤ x → V E X b tgt lv st sh P M) (kf : ¬ 0 ≤ x → V E X b (pc + 3) lv st sh P M) : V E X b pc lv (.int x :: st) sh P M := by
  obtain ⟨p, e, R, s, m, args, below, meth, c, Q⟩ := X
  intro H locs cells slots ls hl hR hlo hc hs
  exact lv_if_ge hX.1 hX.2.1 hd ht (fun z => kt z H locs cells slots ls hl hR hlo hc hs) (fun z => kf z H locs cells slots ls hl hR hlo hc hs)
theorem V.icmp_ge (hX : v_K E X cc own nL d) {x y : Int32} {off : Int} {tgt : Nat} (hd : decode cc pc = .ok (.if_icmp .ge off, 3)) (ht : (pc : Int) + off = (tgt : Int)) (kt : y ≤ x → V E X b tgt lv st sh P M) (kf : ¬ y ≤ x → V E X b (pc + 3) lv st sh P M) : V E X b pc lv (.int y :: .int x :: st) sh P M := by
  obtain ⟨p, e, R, s, m, args, below, meth, c, Q⟩ := X
  intro H locs cells slots ls hl hR hlo hc hs
  exact lv_icmp_ge hX.1 hX.2.1 hd ht (fun z => kt z H locs cells slots ls hl hR hlo hc hs) (fun z => kf z H locs cells slots ls hl hR hlo hc hs)
theorem V.if_gt (hX : v_K E X cc own nL d) {x : Int32} {off : Int} {tgt : Nat} (hd : decode cc pc = .ok (.ifCond .gt off, 3)) (ht : (pc : Int) + off = (tgt : Int)) (kt : 0 < x → V E X b tgt lv st sh P M) (kf : ¬ 0 < x → V E X b (pc + 3) lv st sh P M) : V E X b pc lv (.int x :: st) sh P M := by
  obtain ⟨p, e, R, s, m, args, below, meth, c, Q⟩ := X
  intro H locs cells slots ls hl hR hlo hc hs
  exact lv_if_gt hX.1 hX.2.1 hd ht (fun z => kt z H locs cells slots ls hl hR hlo hc hs) (fun z => kf z H locs cells slots ls hl hR hlo hc hs)
theorem V.icmp_gt (hX : v_K E X cc own nL d) {x y : Int32} {off : Int} {tgt : Nat} (hd : decode cc pc = .ok (.if_icmp .gt off, 3)) (ht : (pc : Int) + off = (tgt : Int)) (kt : y < x → V E X b tgt lv st sh P M) (kf : ¬ y < x → V E X b (pc + 3) lv st sh P M) : V E X b pc lv (.int y :: .int x :: st) sh P M := by
  obtain ⟨p, e, R, s, m, args, below, meth, c, Q⟩ := X
  intro H locs cells slots ls hl hR hlo hc hs
  exact lv_icmp_gt hX.1 hX.2.1 hd ht (fun z => kt z H locs cells slots ls hl hR hlo hc hs) (fun z => kf z H locs cells slots ls hl hR hlo hc hs)
theorem V.if_le (hX : v_K E X cc own nL d) {x : Int32} {off : Int} {tgt : Nat} (hd : decode cc pc = .ok (.ifCond .le off, 3)) (ht : (pc : Int) + off = (tgt : Int)) (kt : x ≤ 0 → V E X b tgt lv st sh P M) (kf : ¬ x ≤ 0 → V E X b (pc + 3) lv st sh P M) : V E X b pc lv (.int x :: st) sh P M := by
  obtain ⟨p, e, R, s, m, args, below, meth, c, Q⟩ := X
  intro H locs cells slots ls hl hR hlo hc hs
  exact lv_if_le hX.1 hX.2.1 hd ht (fun z => kt z H locs cells slots ls hl hR hlo hc hs) (fun z => kf z H locs cells slots ls hl hR hlo hc hs)
theorem V.icmp_le (hX : v_K E X cc own nL d) {x y : Int32} {off : Int} {tgt : Nat} (hd : decode cc pc = .ok (.if_icmp .le off, 3)) (ht : (pc : Int) + off = (tgt : Int)) (kt : x ≤ y → V E X b tgt lv st sh P M) (kf : ¬ x ≤ y → V E X b (pc + 3) lv st sh P M) : V E X b pc lv (.int y :: .int x :: st) sh P M := by
  obtain ⟨p, e, R, s, m, args, below, meth, c, Q⟩ := X
  intro H locs cells slots ls hl hR hlo hc hs
  exact lv_icmp_le hX.1 hX.2.1 hd ht (fun z => kt z H locs cells slots ls hl hR hlo hc hs) (fun z => kf z H locs cells slots ls hl hR hlo hc hs)
theorem V.goto (hX : v_K E X cc own nL d) {off : Int} {tgt : Nat} (hd : decode cc pc = .ok (.goto off, 3)) (ht : (pc : Int) + off = (tgt : Int)) (k : V E X b tgt lv st sh P M) : V E X b pc lv st sh P M := by
  obtain ⟨p, e, R, s, m, args, below, meth, c, Q⟩ := X
  intro H locs cells slots ls hl hR hlo hc hs
  exact lv_goto hX.1 hX.2.1 hd ht (k H locs cells slots ls hl hR hlo hc hs)
theorem V.tableIn (hX : v_K E X cc own nL d) {dflt lo hi : Int} {offs : Array Int} {len : Nat} {x : Int32} {off : Int} {tgt : Nat} (hd : decode cc pc = .ok (.tableswitch dflt lo hi offs, len)) (h1 : ¬ x.toInt < lo) (h2 : ¬ hi < x.toInt) (ho : offs[(x.toInt - lo).toNat]? = some off) (ht : (pc : Int) + off = (tgt : Int)) (k : V E X b tgt lv st sh P M) : V E X b pc lv (.int x :: st) sh P M := by
  obtain ⟨p, e, R, s, m, args, below, meth, c, Q⟩ := X
  intro H locs cells slots ls hl hR hlo hc hs
  exact lv_tableIn hX.1 hX.2.1 hd h1 h2 ho ht (k H locs cells slots ls hl hR hlo hc hs)
theorem V.tableOut (hX : v_K E X cc own nL d) {dflt lo hi : Int} {offs : Array Int} {len : Nat} {x : Int32} {tgt : Nat} (hd : decode cc pc = .ok (.tableswitch dflt lo hi offs, len)) (h : x.toInt < lo ∨ hi < x.toInt) (ht : (pc : Int) + dflt = (tgt : Int)) (k : V E X b tgt lv st sh P M) : V E X b pc lv (.int x :: st) sh P M := by
  obtain ⟨p, e, R, s, m, args, below, meth, c, Q⟩ := X
  intro H locs cells slots ls hl hR hlo hc hs
  exact lv_tableOut hX.1 hX.2.1 hd h ht (k H locs cells slots ls hl hR hlo hc hs)
theorem V.lookup (hX : v_K E X cc own nL d) {dflt : Int} {ps : Array (Int × Int)} {len : Nat} {x : Int32} {off : Int} {tgt : Nat} (hd : decode cc pc = .ok (.lookupswitch dflt ps, len)) (hp : (ps.toList.zip (ps.toList.drop 1)).all (fun (a, next) => a.1 < next.1) = true) (ho : Op.lookupswitch.offset ps.toList dflt x.toInt = off) (ht : (pc : Int) + off = (tgt : Int)) (k : V E X b tgt lv st sh P M) : V E X b pc lv (.int x :: st) sh P M := by
  obtain ⟨p, e, R, s, m, args, below, meth, c, Q⟩ := X
  intro H locs cells slots ls hl hR hlo hc hs
  exact lv_lookup hX.1 hX.2.1 hd hp ho ht (k H locs cells slots ls hl hR hlo hc hs)
theorem V.ifnullR (hX : v_K E X cc own nL d) {v : Value} (hr : ∃ a, v = .ref a) {off : Int} (hd : decode cc pc = .ok (.ifnull off, 3)) (k : V E X b (pc + 3) lv st sh P M) : V E X b pc lv (v :: st) sh P M := by
  obtain ⟨a, rfl⟩ := hr
  obtain ⟨p, e, R, s, m, args, below, meth, c, Q⟩ := X
  intro H locs cells slots ls hl hR hlo hc hs
  exact lv_ifnull hX.1 hX.2.1 hd (k H locs cells slots ls hl hR hlo hc hs)
theorem V.ifnullN (hX : v_K E X cc own nL d) {off : Int} {tgt : Nat} (hd : decode cc pc = .ok (.ifnull off, 3)) (ht : (pc : Int) + off = (tgt : Int)) (k : V E X b tgt lv st sh P M) : V E X b pc lv (.null :: st) sh P M := by
  obtain ⟨p, e, R, s, m, args, below, meth, c, Q⟩ := X
  intro H locs cells slots ls hl hR hlo hc hs
  exact lv_ifnullN hX.1 hX.2.1 hd ht (k H locs cells slots ls hl hR hlo hc hs)
theorem V.ifnonnullR (hX : v_K E X cc own nL d) {v : Value} (hr : ∃ a, v = .ref a) {off : Int} {tgt : Nat} (hd : decode cc pc = .ok (.ifnonnull off, 3)) (ht : (pc : Int) + off = (tgt : Int)) (k : V E X b tgt lv st sh P M) : V E X b pc lv (v :: st) sh P M := by
  obtain ⟨a, rfl⟩ := hr
  obtain ⟨p, e, R, s, m, args, below, meth, c, Q⟩ := X
  intro H locs cells slots ls hl hR hlo hc hs
  exact lv_ifnonnull hX.1 hX.2.1 hd ht (k H locs cells slots ls hl hR hlo hc hs)
theorem V.ifnonnullN (hX : v_K E X cc own nL d) {off : Int} (hd : decode cc pc = .ok (.ifnonnull off, 3)) (k : V E X b (pc + 3) lv st sh P M) : V E X b pc lv (.null :: st) sh P M := by
  obtain ⟨p, e, R, s, m, args, below, meth, c, Q⟩ := X
  intro H locs cells slots ls hl hR hlo hc hs
  exact lv_ifnonnullN hX.1 hX.2.1 hd (k H locs cells slots ls hl hR hlo hc hs)
end VR1
