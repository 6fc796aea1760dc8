/-! the world at the law's entry, out of the Statement's premises -/
def v_tm (i : Nat) : Term := .string (v_sx.getD i ("", 0, "")).1 (v_sx.getD i ("", 0, "")).2.1
def v_fl0 : List Cond := flatC (Jvm.Cond.and given_1 narrow_1)
set_option maxRecDepth 100000 in
theorem v_s1 : ∀ i : Nat, i < 21 → Cond.exactly (v_tm i) "java/lang/String" ∈ v_fl0 := by decide +kernel
set_option maxRecDepth 100000 in
theorem v_s2 : ∀ i : Nat, i < 21 → Cond.eq (.field (v_tm i) "java/lang/String" "coder" "B") (.int 0) ∈ v_fl0 := by decide +kernel
set_option maxRecDepth 100000 in
theorem v_s3 : ∀ i : Nat, i < 21 → Cond.arrayOf (.field (v_tm i) "java/lang/String" "value" "[B") .byte ∈ v_fl0 := by decide +kernel
set_option maxRecDepth 100000 in
theorem v_s4 : ∀ i : Nat, i < 21 → Cond.eq (.length (.field (v_tm i) "java/lang/String" "value" "[B")) (.int (Int32.ofNat (v_sn.getD i 0))) ∈ v_fl0 := by decide +kernel
def v_ex : List Cond := (List.range 21).flatMap (fun i => (List.range (v_sn.getD i 0)).map (fun j => Cond.eq (.elem (.field (v_tm i) "java/lang/String" "value" "[B") (.int (Int32.ofNat j))) (.int ((v_sb.getD i []).getD j 0))) ++ (List.range i).map (fun j => Cond.not (Cond.eq (v_tm j) (v_tm i))))
def v_sub : List Cond → List Cond → Bool
  | _, [] => false
  | [], _ :: _ => true
  | a :: as, b :: bs => if a = b then (match as with | [] => true | _ :: _ => v_sub as bs) else v_sub (a :: as) bs
theorem v_sub_mem : ∀ (bs as : List Cond), v_sub as bs = true → ∀ c ∈ as, c ∈ bs := by
  intro bs
  induction bs with
  | nil => intro as h; cases as <;> simp [v_sub] at h
  | cons b bs ih =>
    intro as h c hc
    cases as with
    | nil => cases hc
    | cons a as =>
      unfold v_sub at h
      split at h
      · rename_i hab
        cases hc with
        | head => rw [hab]; exact List.mem_cons_self ..
        | tail _ hc =>
          cases as with
          | nil => cases hc
          | cons a2 as => exact List.mem_cons_of_mem _ (ih _ h c hc)
      · exact List.mem_cons_of_mem _ (ih _ h c hc)
set_option maxRecDepth 100000 in
theorem v_ex_all : v_sub v_ex v_fl0 = true := by decide +kernel
theorem v_s5 : ∀ i : Nat, i < 21 → ∀ j : Nat, j < v_sn.getD i 0 → Cond.eq (.elem (.field (v_tm i) "java/lang/String" "value" "[B") (.int (Int32.ofNat j))) (.int ((v_sb.getD i []).getD j 0)) ∈ v_fl0 := fun i hi j hj =>
  v_sub_mem _ _ v_ex_all _ (List.mem_flatMap.mpr ⟨i, List.mem_range.mpr hi, List.mem_append_left _ (List.mem_map.mpr ⟨j, List.mem_range.mpr hj, rfl⟩)⟩)
theorem v_s6 : ∀ i : Nat, i < 21 → ∀ j : Nat, j < 21 → i ≠ j → Cond.not (Cond.eq (v_tm i) (v_tm j)) ∈ v_fl0 ∨ Cond.not (Cond.eq (v_tm j) (v_tm i)) ∈ v_fl0 := fun i hi j hj hij =>
  (Nat.lt_or_gt_of_ne hij).imp (fun h => v_sub_mem _ _ v_ex_all _ (List.mem_flatMap.mpr ⟨j, List.mem_range.mpr hj, List.mem_append_right _ (List.mem_map.mpr ⟨i, List.mem_range.mpr h, rfl⟩)⟩)) (fun h => v_sub_mem _ _ v_ex_all _ (List.mem_flatMap.mpr ⟨i, List.mem_range.mpr hi, List.mem_append_right _ (List.mem_map.mpr ⟨j, List.mem_range.mpr h, rfl⟩)⟩))
set_option maxRecDepth 100000 in
theorem v_s7 : ∀ i : Nat, i < 21 → Cond.stringRef (v_sx.getD i ("", 0, "")).1 (v_sx.getD i ("", 0, "")).2.1 (v_sx.getD i ("", 0, "")).2.2 ∈ tables_1 := by decide +kernel
set_option maxRecDepth 100000 in
theorem v_s8 : Cond.eq (.static "java/lang/String" "COMPACT_STRINGS" "Z") (.int 1) ∈ v_fl0 ∧ Cond.isRef (.static "jdk/internal/util/Preconditions" "SIOOBE_FORMATTER" "Ljava/util/function/BiFunction;") ∈ v_fl0 ∧ Cond.laysStatic "java/lang/String" "COMPACT_STRINGS" "Z" ∈ tables_1 ∧ Cond.laysStatic "jdk/internal/util/Preconditions" "SIOOBE_FORMATTER" "Ljava/util/function/BiFunction;" ∈ tables_1 ∧ Cond.initialized "java/lang/String" ∈ tables_1 ∧ Cond.initialized "jdk/internal/util/Preconditions" ∈ tables_1 := by decide +kernel
set_option maxRecDepth 100000 in
theorem v_s9 : Cond.arrayClass .int ∈ tables_1 ∧ Cond.arrayClass .boolean ∈ tables_1 ∧ Cond.arrayClass .byte ∈ tables_1 ∧ Cond.arrayClass .long ∈ tables_1 ∧ Cond.arrayOver (.object "NearlyShut$Order") ∈ tables_1 ∧ Cond.arrayOver (.object "NearlyShut$Fleet") ∈ tables_1 := by decide +kernel
set_option maxRecDepth 100000 in
theorem v_s10 : ∀ ci : Nat, ci < 13 → Cond.instantiable (v_cn ci) (v_N ci) ∈ tables_1 := by decide +kernel
theorem v_prim {args : Array Value} {s : State} {ty : FieldType} (h : (Cond.arrayClass ty).before args s = true) : ∃ cA : ClassId, ArrOfT s cA ty ∧ s.vm.findClass ("[" ++ ty.toString) = some cA := by
  obtain ⟨c, k, comp, h1, h2, h3⟩ := Cond.arrayClass_spec h
  exact ⟨c, fun n z => ⟨fun q h => (by cases h), k, h2, comp, h3⟩, h1⟩
theorem v_objs {args : Array Value} {s : State} {C : String} (h : (Cond.arrayOver (.object C)).before args s = true) : ∃ cA : ClassId, ArrOfT s cA (.object C) ∧ va_RA s cA (.object C) := by
  obtain ⟨comp, c, k, h1, h2, h3, h4, h5⟩ := Cond.arrayOver_spec h
  exact ⟨c, fun n z => ⟨fun q h => (by cases h), k, h3, comp, h4⟩, k, comp, h3, h4, h1, h5⟩
theorem v_world (l : Launch) {args : Array Value} {s : State} (hts : ∀ w ∈ lw_tbl, w.before args s = true) (hgv : (Jvm.Cond.and given_1 narrow_1).before args s = true) : ∃ E : v_E, E.1 = l ∧ E.2.2.2.1 = s.heap ∧ v_W E s := by
  have ht : ∀ w ∈ tables_1, w.before args s = true := fun w hw => hts w (List.mem_append_right _ hw)
  have hbw : ∀ w ∈ v_bw, w.before args s = true := fun w hw => hts w (List.mem_filter.mp hw).1
  have hs : ∀ c ∈ v_fl0, c.before args s = true := flat_of_before _ hgv
  have hA : ∀ a : Nat, a < s.heap.size → ¬ (fun q : Nat => s.heap.size ≤ q) a := fun a h => Nat.not_le.mpr h
  have h0 : ∀ ci : Nat, ∃ q : ClassId × (Nat → Nat), ci < 13 → u_Kn s (v_cn ci) (v_T ci) (v_N ci) q.1 q.2 := by
    intro ci
    by_cases hci : ci < 13
    · obtain ⟨cC, iS, h⟩ := u_known (n := v_N ci) hbw (v_lay ci hci) (ht _ (v_s10 ci hci))
      exact ⟨(cC, iS), fun _ => h⟩
    · exact ⟨(Classical.choice ⟨(0 : Nat)⟩, fun k => k), fun h => absurd h hci⟩
  obtain ⟨dd, hdd⟩ := Classical.axiomOfChoice h0
  obtain ⟨a1, a2, a3, a4, a5, a6⟩ := v_s9
  obtain ⟨c1, p1, q1⟩ := v_prim (ht _ a1)
  obtain ⟨c2, p2, q2⟩ := v_prim (ht _ a2)
  obtain ⟨c3, p3, q3⟩ := v_prim (ht _ a3)
  obtain ⟨c4, p4, q4⟩ := v_prim (ht _ a4)
  obtain ⟨c5, p5, q5⟩ := v_objs (ht _ a5)
  obtain ⟨c6, p6, q6⟩ := v_objs (ht _ a6)
  obtain ⟨adK, adV, hSt, hev⟩ := vk_Sof (N := 21) (tm := v_tm) (len := v_sn) (byt := v_sb) (A := fun q : Nat => s.heap.size ≤ q) (fun i hi => v_sn_lt hi) (fun i hi => hs _ (v_s1 i hi)) (fun i hi => hs _ (v_s2 i hi)) (fun i hi => hs _ (v_s3 i hi)) (fun i hi => hs _ (v_s4 i hi)) (fun i hi j hj => hs _ (v_s5 i hi j hj)) (fun i j hi hj hij => (v_s6 i hi j hj hij).imp (hs _) (hs _)) hA
  obtain ⟨b1, b2, b3, b4, b5, b6⟩ := v_s8
  obtain ⟨z, hz, hzr⟩ := Cond.isRef_spec (hs _ b2)
  refine ⟨(l, (fun k => (dd k).1, fun k => (dd k).2), (fun t => match t with | 1 => c1 | 2 => c2 | 3 => c3 | 4 => c4 | 5 => c5 | _ => c6), s.heap, adK, adV), rfl, rfl, ⟨fun c q hq => ?_, fun k q hk => ?_⟩, fun w hw hn => ?_, ⟨ht _ a5, ht _ a6⟩, fun i q hq => ?_, hSt, va_Zof (ht _ b3) (ht _ b5) (va_eqi (hs _ b1)) hA, z, ?_, va_Zof (ht _ b4) (ht _ b6) hz hA⟩
  · have hc : c < 13 := (List.getElem?_eq_some_iff.mp hq).1
    rw [v_cl c hc] at hq
    cases hq
    exact hdd c hc
  · match k, hk with
    | 0, hk => cases hk; exact ⟨p1, q1⟩
    | 1, hk => cases hk; exact ⟨p2, q2⟩
    | 2, hk => cases hk; exact ⟨p3, q3⟩
    | 3, hk => cases hk; exact ⟨p4, q4⟩
    | 4, hk => cases hk; exact ⟨p5, q5⟩
    | 5, hk => cases hk; exact ⟨p6, q6⟩
    | k + 6, hk => simp [v_tys] at hk
  · have := ht w hw
    cases w <;> first | (cases hn; done) | exact va_Nw.of rfl this
  · have hi : i < 21 := (List.getElem?_eq_some_iff.mp hq).1
    have e : v_sx.getD i ("", 0, "") = q := by rw [List.getD_eq_getElem?_getD, hq]; rfl
    have h1 := ht _ (v_s7 i hi)
    have h2 := hev i hi
    unfold v_tm at h2
    rw [e] at h1 h2
    exact vk_R.of h1 h2
  · cases z <;> first | exact Or.inl rfl | exact Or.inr ⟨_, rfl⟩ | (simp [Value.isRef] at hzr; done)
