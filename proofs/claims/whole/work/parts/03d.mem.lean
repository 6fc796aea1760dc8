section VR2
variable {E : v_E} {X : v_X} {cc : ByteArray} {own : String} {nL d : Nat} {b : Nat × Nat} {pc : Nat} {lv lv' : List (Nat × Value)} {st : List Value} {sh : v_S} {P : v_P} {M : v_M}
def v_isI (ty : FieldType) : Bool := match ty with
  | .long => false
  | .float => false
  | .double => false
  | .object _ => false
  | .array _ => false
  | _ => true
def v_isR (ty : FieldType) : Bool := match ty with
  | .object _ => true
  | .array _ => true
  | _ => false
theorem v_fvI {ty : FieldType} {k j : Nat} (h : v_isI ty = true) : v_fv E P M ty k j = .int (M.1 k j) := by cases ty <;> first | rfl | (cases h; done)
theorem v_fvR {ty : FieldType} {k j : Nat} (h : v_isR ty = true) : v_fv E P M ty k j = v_rq E (P k j) := by cases ty <;> first | rfl | (cases h; done)
theorem v_wr_1 (M : v_M) (k i : Nat) (v : Int32) : (v_wr M k i v).1 k = upd (M.1 k) i v := by simp [v_wr]
theorem v_wr_n {M : v_M} {k i : Nat} {v : Int32} {j : Nat} (h : j ≠ k) : (v_wr M k i v).1 j = M.1 j := by simp [v_wr, h]
theorem v_wl_2 (M : v_M) (k i : Nat) (v : Int64) : (v_wl M k i v).2 k = vp_updL (M.2 k) i v := by simp [v_wl]
theorem v_wl_n {M : v_M} {k i : Nat} {v : Int64} {j : Nat} (h : j ≠ k) : (v_wl M k i v).2 j = M.2 j := by simp [v_wl, h]
theorem v_wp_1 (P : v_P) (k i : Nat) (v : Option Nat) : v_wp P k i v k = fun j => if j = i then v else P k j := by simp [v_wp]
theorem v_wp_n {P : v_P} {k i : Nat} {v : Option Nat} {j : Nat} (h : j ≠ k) : v_wp P k i v j = P j := by simp [v_wp, h]
/-- a field by its number: class ci, field j, as the class own links it at ix -/
def v_F (own : String) (ix ci j : Nat) : Prop := ci < 13 ∧ j < v_N ci ∧ Cond.fieldLink own ix (v_T ci j).1 (v_T ci j).2.1 (v_T ci j).2.2.1 ∈ v_bw
theorem V.get (hX : v_K E X cc own nL d) {ix ci j k : Nat} (hF : v_F own ix ci j) (hk : sh[k]? = some (0, ci)) (hd : decode cc pc = .ok (.getfield ix, 3)) (kk : V E X b (pc + 3) lv (v_fv E P M (v_ty ci j) k j :: st) sh P M) : V E X b pc lv (v_rf E k :: st) sh P M := by
  obtain ⟨p, e, R, s, m, args, below, meth, c, Q⟩ := X
  intro H locs cells slots ls hl hR hlo hc hs
  obtain ⟨hci, hj, hlk⟩ := hF
  obtain ⟨-, cell, q1, q2, q3, q4⟩ := hR.2.2 k _ hk
  obtain ⟨hS, hfc, kC, hkC, hkind⟩ := hX.2.2.2.2.1.1.1 ci _ (v_cl ci hci)
  obtain ⟨cf, kf, fi, f, hi, hsl⟩ := hS j hj
  exact W.getf hX.1 hX.2.1 hX.2.2.1 (hX.2.2.2.1 _ hlk) hi (u_facts hfc hkC (u_lays hX.2.2.2.1 (v_lay ci hci) hj) hi).1 q1 (by rw [q3]; exact fun h => by cases h) (v := v_fv E P M (v_ty ci j) k j) (by rw [hsl]; exact q4 j hj) rfl rfl hd (kk H locs cells slots ls hl hR hlo hc hs)
theorem V.getI (hX : v_K E X cc own nL d) {ix ci j k : Nat} (hF : v_F own ix ci j) (ht : v_isI (v_ty ci j) = true) (hk : sh[k]? = some (0, ci)) (hd : decode cc pc = .ok (.getfield ix, 3)) (kk : V E X b (pc + 3) lv (.int (M.1 k j) :: st) sh P M) : V E X b pc lv (v_rf E k :: st) sh P M := V.get hX hF hk hd (by rw [v_fvI ht]; exact kk)
theorem V.getR (hX : v_K E X cc own nL d) {ix ci j k q : Nat} (hF : v_F own ix ci j) (ht : v_isR (v_ty ci j) = true) (hk : sh[k]? = some (0, ci)) (hp : P k j = some q) (hd : decode cc pc = .ok (.getfield ix, 3)) (kk : V E X b (pc + 3) lv (v_rf E q :: st) sh P M) : V E X b pc lv (v_rf E k :: st) sh P M := V.get hX hF hk hd (by rw [v_fvR ht, hp]; exact kk)
theorem V.put (hX : v_K E X cc own nL d) {ix ci j k : Nat} {v : Value} {P' : v_P} {M' : v_M} (hF : v_F own ix ci j) (hfin : (v_T ci j).2.2.2 = false) (hn : narrow (v_ty ci j) v = v) (hfit : fits (v_ty ci j) v = true) (hk : sh[k]? = some (0, ci)) (h1 : ∀ i, i ≠ k → M'.1 i = M.1 i) (h2 : ∀ i, i ≠ k → M'.2 i = M.2 i) (h3 : ∀ i, i ≠ k → P' i = P i)
    (hv : v_fv E P' M' (v_ty ci j) k j = v) (ho : ∀ i, i ≠ j → v_fv E P' M' (v_ty ci i) k i = v_fv E P M (v_ty ci i) k i) (hd : decode cc pc = .ok (.putfield ix, 3)) (kk : V E X b (pc + 3) lv st sh P' M') : V E X b pc lv (v :: v_rf E k :: st) sh P M := by
  obtain ⟨p, e, R, s, m, args, below, meth, c, Q⟩ := X
  intro H locs cells slots ls hl hR hlo hc hs
  obtain ⟨hci, hj, hlk⟩ := hF
  obtain ⟨-, cell, q1, q2, q3, q4⟩ := hR.2.2 k _ hk
  have hK := hX.2.2.2.2.1.1
  obtain ⟨hS, hfc, kC, hkC, hkind⟩ := hK.1 ci _ (v_cl ci hci)
  obtain ⟨cf, kf, fi, f, hi, hsl⟩ := hS j hj
  have hts := hX.2.2.2.1
  have hap := va_apart (own := own) hts (v_lay ci hci) (v_ty ci) (v_tok ci hci) (v_nm ci hci) hK (v_cl ci hci)
  have hlay := hts _ (v_lay ci hci _ (u_in_lay hj))
  unfold u_lay at hlay
  rw [if_neg (by rw [hfin]; decide)] at hlay
  have hst := (u_facts hfc hkC (u_lays hts (v_lay ci hci) hj) hi).1
  have h6 := u_store hfc hkC hkind hlay hi (v_tok ci hci j hj) hn hfit
  refine W.putK hX.1 hX.2.1 (f := f) ⟨hX.2.2.1, hts _ hlk, ⟨_, _, _, hi⟩, hst⟩ (by rw [q2]; exact h6) q1 q3 (by rw [hsl]; exact k2_hasslot (q4 j hj)) rfl rfl hd fun H' e1 e2 e3 => ?_
  rw [hsl] at e1 ⊢
  refine kk H' _ cells slots ls hl (hR.upd hk e2 e3 h1 h2 h3 ⟨hci, t_OB.to (V := updV (fun i => v_fv E P M (v_ty ci i) k i) j v) ⟨_, e1, q2, q3, t_set q4 hap hj v⟩ (fun i _ => ?_)⟩) (fun q hq => ?_) hc hs
  · by_cases hij : i = j
    · subst hij; simp [updV, hv]
    · simp [updV, hij, ho i hij]
  · rcases List.mem_append.mp hq with h | h
    · exact hlo q h
    · rw [List.mem_singleton.mp h]; exact Nat.le_add_right _ _
theorem V.putF (hX : v_K E X cc own nL d) {ix ci j k : Nat} {v : Value} {P' : v_P} {M' : v_M} (hF : v_F own ix ci j) (hfin : (v_T ci j).2.2.2 = true) (hnm : X.2.2.2.2.2.2.2.1.name = "<init>") (hdecl : (v_T ci j).1 = own) (hn : narrow (v_ty ci j) v = v) (hfit : fits (v_ty ci j) v = true) (hk : sh[k]? = some (0, ci)) (h1 : ∀ i, i ≠ k → M'.1 i = M.1 i) (h2 : ∀ i, i ≠ k → M'.2 i = M.2 i) (h3 : ∀ i, i ≠ k → P' i = P i)
    (hv : v_fv E P' M' (v_ty ci j) k j = v) (ho : ∀ i, i ≠ j → v_fv E P' M' (v_ty ci i) k i = v_fv E P M (v_ty ci i) k i) (hd : decode cc pc = .ok (.putfield ix, 3)) (kk : V E X b (pc + 3) lv st sh P' M') : V E X b pc lv (v :: v_rf E k :: st) sh P M := by
  obtain ⟨p, e, R, s, m, args, below, meth, c, Q⟩ := X
  intro H locs cells slots ls hl hR hlo hc hs
  obtain ⟨hci, hj, hlk⟩ := hF
  obtain ⟨-, cell, q1, q2, q3, q4⟩ := hR.2.2 k _ hk
  have hK := hX.2.2.2.2.1.1
  obtain ⟨hS, hfc, kC, hkC, hkind⟩ := hK.1 ci _ (v_cl ci hci)
  obtain ⟨cf, kf, fi, f, hi, hsl⟩ := hS j hj
  have hts := hX.2.2.2.1
  have hap := va_apart (own := own) hts (v_lay ci hci) (v_ty ci) (v_tok ci hci) (v_nm ci hci) hK (v_cl ci hci)
  have hst := (u_facts hfc hkC (u_lays hts (v_lay ci hci) hj) hi).1
  have h6 := u_fits hfc hkC hkind (u_lays hts (v_lay ci hci) hj) hi (v_tok ci hci j hj) hn hfit
  have hlay := hts _ (v_lay ci hci _ (u_in_lay hj))
  unfold u_lay at hlay
  rw [if_pos hfin] at hlay
  have hcf : m.cls = cf := by
    obtain ⟨_, _, c', _, _, _, -, -, hf', -, -, -, hown2, -⟩ := Cond.laysFinal_spec hlay
    have e1 : c' = cf := by have := hi.symm.trans hf'; simp at this; exact this.1.symm
    rw [hdecl] at hown2
    rw [← e1]; exact Option.some.inj (hX.2.2.1.symm.trans hown2)
  refine W.putFinK hX.1 hX.2.1 hX.2.2.1 (hts _ hlk) hi hst hcf hnm (by rw [q2]; exact h6) q1 q3 (by rw [hsl]; exact k2_hasslot (q4 j hj)) rfl rfl hd fun H' e1 e2 e3 => ?_
  rw [hsl] at e1 ⊢
  refine kk H' _ cells slots ls hl (hR.upd hk e2 e3 h1 h2 h3 ⟨hci, t_OB.to (V := updV (fun i => v_fv E P M (v_ty ci i) k i) j v) ⟨_, e1, q2, q3, t_set q4 hap hj v⟩ (fun i _ => ?_)⟩) (fun q hq => ?_) hc hs
  · by_cases hij : i = j
    · subst hij; simp [updV, hv]
    · simp [updV, hij, ho i hij]
  · rcases List.mem_append.mp hq with h | h
    · exact hlo q h
    · rw [List.mem_singleton.mp h]; exact Nat.le_add_right _ _
def v_okI (ty : FieldType) (x : Int32) : Prop := narrow ty (.int x) = .int x ∧ fits ty (.int x) = true
theorem v_fv_wrn {ty : FieldType} {k i j : Nat} {x : Int32} (h : i ≠ j) : v_fv E P (v_wr M k j x) ty k i = v_fv E P M ty k i := by
  unfold v_fv; split <;> simp [v_wr, upd, h]
theorem v_fv_wpn {ty : FieldType} {k i j : Nat} {x : Option Nat} (h : i ≠ j) : v_fv E (v_wp P k j x) M ty k i = v_fv E P M ty k i := by
  unfold v_fv; split <;> simp [v_wp, h]
theorem V.putI (hX : v_K E X cc own nL d) {ix ci j k : Nat} {x : Int32} (hF : v_F own ix ci j) (ht : v_isI (v_ty ci j) = true) (hfin : (v_T ci j).2.2.2 = false) (hv : v_okI (v_ty ci j) x) (hk : sh[k]? = some (0, ci)) (hd : decode cc pc = .ok (.putfield ix, 3)) (kk : V E X b (pc + 3) lv st sh P (v_wr M k j x)) : V E X b pc lv (.int x :: v_rf E k :: st) sh P M :=
  V.put hX hF hfin hv.1 hv.2 hk (fun i h => v_wr_n h) (fun i h => rfl) (fun i h => rfl) (by rw [v_fvI ht, v_wr_1]; simp [upd]) (fun i h => v_fv_wrn h) hd kk
theorem v_rf_ok {ty : FieldType} {k : Nat} (ht : v_isR ty = true) : narrow ty (v_rf E k) = v_rf E k ∧ fits ty (v_rf E k) = true := by
  cases ty <;> first | (cases ht; done) | exact ⟨rfl, rfl⟩
theorem V.putR (hX : v_K E X cc own nL d) {ix ci j k q : Nat} (hF : v_F own ix ci j) (ht : v_isR (v_ty ci j) = true) (hfin : (v_T ci j).2.2.2 = false) (hk : sh[k]? = some (0, ci)) (hd : decode cc pc = .ok (.putfield ix, 3)) (kk : V E X b (pc + 3) lv st sh (v_wp P k j (some q)) M) : V E X b pc lv (v_rf E q :: v_rf E k :: st) sh P M :=
  V.put hX hF hfin (v_rf_ok ht).1 (v_rf_ok ht).2 hk (fun i h => rfl) (fun i h => rfl) (fun i h => v_wp_n h) (by rw [v_fvR ht, v_wp_1]; simp [v_rq]) (fun i h => v_fv_wpn h) hd kk
theorem V.putFR (hX : v_K E X cc own nL d) {ix ci j k q : Nat} (hF : v_F own ix ci j) (ht : v_isR (v_ty ci j) = true) (hfin : (v_T ci j).2.2.2 = true) (hnm : X.2.2.2.2.2.2.2.1.name = "<init>") (hdecl : (v_T ci j).1 = own) (hk : sh[k]? = some (0, ci)) (hd : decode cc pc = .ok (.putfield ix, 3)) (kk : V E X b (pc + 3) lv st sh (v_wp P k j (some q)) M) : V E X b pc lv (v_rf E q :: v_rf E k :: st) sh P M :=
  V.putF hX hF hfin hnm hdecl (v_rf_ok ht).1 (v_rf_ok ht).2 hk (fun i h => rfl) (fun i h => rfl) (fun i h => v_wp_n h) (by rw [v_fvR ht, v_wp_1]; simp [v_rq]) (fun i h => v_fv_wpn h) hd kk
theorem V.iald (hX : v_K E X cc own nL d) {k n : Nat} {i : Int32} (hk : sh[k]? = some (1, n)) (hin : vp_in i n) (hd : decode cc pc = .ok (.iaload, 1)) (kk : V E X b (pc + 1) lv (.int (M.1 k i.toNatClampNeg) :: st) sh P M) : V E X b pc lv (.int i :: v_rf E k :: st) sh P M := by
  obtain ⟨p, e, R, s, m, args, below, meth, c, Q⟩ := X
  intro H locs cells slots ls hl hR hlo hc hs
  have h0 : H[v_o E + k]? = some (arrV (E.2.2.1 1) n (v_av E P M 1 k)) := hR.2.2 k _ hk
  have hlt : i.toNatClampNeg < n := Nat.not_le.mp fun q => hin (Or.inr q)
  exact W.iald (v := .int (M.1 k i.toNatClampNeg)) hX.1 hX.2.1 h0 ((hX.2.2.2.2.1.1.2 0 _ rfl).1 n _) (fun q => by cases q) (by show ¬ (i < 0 ∨ (arrV _ _ _).slots.size ≤ _); rw [arrV_size]; exact hin) (by show (arrV _ _ _).slots[_]? = _; rw [arrV_read _ _ hlt]; rfl) rfl rfl hd (kk H locs cells slots ls hl hR hlo hc hs)
theorem V.zald (hX : v_K E X cc own nL d) {k n : Nat} {i : Int32} (hk : sh[k]? = some (2, n)) (hin : vp_in i n) (hd : decode cc pc = .ok (.baload, 1)) (kk : V E X b (pc + 1) lv (.int (M.1 k i.toNatClampNeg) :: st) sh P M) : V E X b pc lv (.int i :: v_rf E k :: st) sh P M := by
  obtain ⟨p, e, R, s, m, args, below, meth, c, Q⟩ := X
  intro H locs cells slots ls hl hR hlo hc hs
  have h0 : H[v_o E + k]? = some (arrV (E.2.2.1 2) n (v_av E P M 2 k)) := hR.2.2 k _ hk
  have hlt : i.toNatClampNeg < n := Nat.not_le.mp fun q => hin (Or.inr q)
  exact W.zald (v := .int (M.1 k i.toNatClampNeg)) hX.1 hX.2.1 h0 ((hX.2.2.2.2.1.1.2 1 _ rfl).1 n _) (fun q => by cases q) (by show ¬ (i < 0 ∨ (arrV _ _ _).slots.size ≤ _); rw [arrV_size]; exact hin) (by show (arrV _ _ _).slots[_]? = _; rw [arrV_read _ _ hlt]; rfl) rfl rfl hd (kk H locs cells slots ls hl hR hlo hc hs)
theorem V.bald (hX : v_K E X cc own nL d) {k n : Nat} {i : Int32} (hk : sh[k]? = some (3, n)) (hin : vp_in i n) (hd : decode cc pc = .ok (.baload, 1)) (kk : V E X b (pc + 1) lv (.int (M.1 k i.toNatClampNeg) :: st) sh P M) : V E X b pc lv (.int i :: v_rf E k :: st) sh P M := by
  obtain ⟨p, e, R, s, m, args, below, meth, c, Q⟩ := X
  intro H locs cells slots ls hl hR hlo hc hs
  have h0 : H[v_o E + k]? = some (arrV (E.2.2.1 3) n (v_av E P M 3 k)) := hR.2.2 k _ hk
  have hlt : i.toNatClampNeg < n := Nat.not_le.mp fun q => hin (Or.inr q)
  exact W.bald (v := .int (M.1 k i.toNatClampNeg)) hX.1 hX.2.1 h0 ((hX.2.2.2.2.1.1.2 2 _ rfl).1 n _) (fun q => by cases q) (by show ¬ (i < 0 ∨ (arrV _ _ _).slots.size ≤ _); rw [arrV_size]; exact hin) (by show (arrV _ _ _).slots[_]? = _; rw [arrV_read _ _ hlt]; rfl) rfl rfl hd (kk H locs cells slots ls hl hR hlo hc hs)
theorem V.lald (hX : v_K E X cc own nL d) {k n : Nat} {i : Int32} (hk : sh[k]? = some (4, n)) (hin : vp_in i n) (hd : decode cc pc = .ok (.laload, 1)) (kk : V E X b (pc + 1) lv (.long (M.2 k i.toNatClampNeg) :: st) sh P M) : V E X b pc lv (.int i :: v_rf E k :: st) sh P M := by
  obtain ⟨p, e, R, s, m, args, below, meth, c, Q⟩ := X
  intro H locs cells slots ls hl hR hlo hc hs
  have h0 : H[v_o E + k]? = some (arrV (E.2.2.1 4) n (v_av E P M 4 k)) := hR.2.2 k _ hk
  have hlt : i.toNatClampNeg < n := Nat.not_le.mp fun q => hin (Or.inr q)
  exact W.lald (v := .long (M.2 k i.toNatClampNeg)) hX.1 hX.2.1 h0 ((hX.2.2.2.2.1.1.2 3 _ rfl).1 n _) (fun q => by cases q) (by show ¬ (i < 0 ∨ (arrV _ _ _).slots.size ≤ _); rw [arrV_size]; exact hin) (by show (arrV _ _ _).slots[_]? = _; rw [arrV_read _ _ hlt]; rfl) rfl rfl hd (kk H locs cells slots ls hl hR hlo hc hs)
theorem V.aaldO (hX : v_K E X cc own nL d) {k n : Nat} {i : Int32} (hk : sh[k]? = some (5, n)) (hin : vp_in i n) (hd : decode cc pc = .ok (.aaload, 1)) (kk : V E X b (pc + 1) lv (v_rq E (P k i.toNatClampNeg) :: st) sh P M) : V E X b pc lv (.int i :: v_rf E k :: st) sh P M := by
  obtain ⟨p, e, R, s, m, args, below, meth, c, Q⟩ := X
  intro H locs cells slots ls hl hR hlo hc hs
  have h0 : H[v_o E + k]? = some (arrV (E.2.2.1 5) n (v_av E P M 5 k)) := hR.2.2 k _ hk
  have hlt : i.toNatClampNeg < n := Nat.not_le.mp fun q => hin (Or.inr q)
  exact W.aald (v := v_rq E (P k i.toNatClampNeg)) hX.1 hX.2.1 h0 ((hX.2.2.2.2.1.1.2 4 _ rfl).1 n _) rfl (fun q => by cases q) (by show ¬ (i < 0 ∨ (arrV _ _ _).slots.size ≤ _); rw [arrV_size]; exact hin) (by show (arrV _ _ _).slots[_]? = _; rw [arrV_read _ _ hlt]; rfl) rfl rfl hd (kk H locs cells slots ls hl hR hlo hc hs)
theorem V.aaldF (hX : v_K E X cc own nL d) {k n : Nat} {i : Int32} (hk : sh[k]? = some (6, n)) (hin : vp_in i n) (hd : decode cc pc = .ok (.aaload, 1)) (kk : V E X b (pc + 1) lv (v_rq E (P k i.toNatClampNeg) :: st) sh P M) : V E X b pc lv (.int i :: v_rf E k :: st) sh P M := by
  obtain ⟨p, e, R, s, m, args, below, meth, c, Q⟩ := X
  intro H locs cells slots ls hl hR hlo hc hs
  have h0 : H[v_o E + k]? = some (arrV (E.2.2.1 6) n (v_av E P M 6 k)) := hR.2.2 k _ hk
  have hlt : i.toNatClampNeg < n := Nat.not_le.mp fun q => hin (Or.inr q)
  exact W.aald (v := v_rq E (P k i.toNatClampNeg)) hX.1 hX.2.1 h0 ((hX.2.2.2.2.1.1.2 5 _ rfl).1 n _) rfl (fun q => by cases q) (by show ¬ (i < 0 ∨ (arrV _ _ _).slots.size ≤ _); rw [arrV_size]; exact hin) (by show (arrV _ _ _).slots[_]? = _; rw [arrV_read _ _ hlt]; rfl) rfl rfl hd (kk H locs cells slots ls hl hR hlo hc hs)
theorem V.iast (hX : v_K E X cc own nL d) {k n : Nat} {i : Int32} {x : Int32} (hk : sh[k]? = some (1, n)) (hin : vp_in i n) (hd : decode cc pc = .ok (.iastore, 1)) (kk : V E X b (pc + 1) lv st sh P (v_wr M k i.toNatClampNeg x)) : V E X b pc lv (.int x :: .int i :: v_rf E k :: st) sh P M := by
  obtain ⟨p, e, R, s, m, args, below, meth, c, Q⟩ := X
  intro H locs cells slots ls hl hR hlo hc hs
  have h0 : H[v_o E + k]? = some (arrV (E.2.2.1 1) n (v_av E P M 1 k)) := hR.2.2 k _ hk
  refine W.iast hX.1 hX.2.1 h0 ((hX.2.2.2.2.1.1.2 0 _ rfl).1 n _) (fun q => by cases q) (by show ¬ (i < 0 ∨ (arrV _ _ _).slots.size ≤ _); rw [arrV_size]; exact hin) rfl rfl hd fun H' e1 e2 e3 => ?_
  refine kk H' _ cells slots ls hl (hR.upd hk e2 e3 (fun j h => v_wr_n h) (fun j h => rfl) (fun j h => rfl) ?_) (fun q hq => ?_) hc hs
  · show H'[v_o E + k]? = some (arrV (E.2.2.1 1) n (v_av E P (v_wr M k i.toNatClampNeg x) 1 k))
    rw [e1, arrV_store]
    congr 2
    funext j
    by_cases hj : j = i.toNatClampNeg
    · subst hj; simp [updV, v_av, v_wr, v_wl, upd, vp_updL, vp_nar]; try rfl
    · simp [updV, v_av, v_wr, v_wl, upd, vp_updL, hj]
  · rcases List.mem_append.mp hq with h | h
    · exact hlo q h
    · rw [List.mem_singleton.mp h]; exact Nat.le_add_right _ _
theorem V.zast (hX : v_K E X cc own nL d) {k n : Nat} {i : Int32} {x : Int32} (hk : sh[k]? = some (2, n)) (hin : vp_in i n) (hd : decode cc pc = .ok (.bastore, 1)) (kk : V E X b (pc + 1) lv st sh P (v_wr M k i.toNatClampNeg (vp_nar .boolean x))) : V E X b pc lv (.int x :: .int i :: v_rf E k :: st) sh P M := by
  obtain ⟨p, e, R, s, m, args, below, meth, c, Q⟩ := X
  intro H locs cells slots ls hl hR hlo hc hs
  have h0 : H[v_o E + k]? = some (arrV (E.2.2.1 2) n (v_av E P M 2 k)) := hR.2.2 k _ hk
  refine W.zast hX.1 hX.2.1 h0 ((hX.2.2.2.2.1.1.2 1 _ rfl).1 n _) (fun q => by cases q) (by show ¬ (i < 0 ∨ (arrV _ _ _).slots.size ≤ _); rw [arrV_size]; exact hin) rfl rfl hd fun H' e1 e2 e3 => ?_
  refine kk H' _ cells slots ls hl (hR.upd hk e2 e3 (fun j h => v_wr_n h) (fun j h => rfl) (fun j h => rfl) ?_) (fun q hq => ?_) hc hs
  · show H'[v_o E + k]? = some (arrV (E.2.2.1 2) n (v_av E P (v_wr M k i.toNatClampNeg (vp_nar .boolean x)) 2 k))
    rw [e1, arrV_store]
    congr 2
    funext j
    by_cases hj : j = i.toNatClampNeg
    · subst hj; simp [updV, v_av, v_wr, v_wl, upd, vp_updL, vp_nar]; try rfl
    · simp [updV, v_av, v_wr, v_wl, upd, vp_updL, hj]
  · rcases List.mem_append.mp hq with h | h
    · exact hlo q h
    · rw [List.mem_singleton.mp h]; exact Nat.le_add_right _ _
theorem V.bast (hX : v_K E X cc own nL d) {k n : Nat} {i : Int32} {x : Int32} (hk : sh[k]? = some (3, n)) (hin : vp_in i n) (hd : decode cc pc = .ok (.bastore, 1)) (kk : V E X b (pc + 1) lv st sh P (v_wr M k i.toNatClampNeg (vp_nar .byte x))) : V E X b pc lv (.int x :: .int i :: v_rf E k :: st) sh P M := by
  obtain ⟨p, e, R, s, m, args, below, meth, c, Q⟩ := X
  intro H locs cells slots ls hl hR hlo hc hs
  have h0 : H[v_o E + k]? = some (arrV (E.2.2.1 3) n (v_av E P M 3 k)) := hR.2.2 k _ hk
  refine W.bast hX.1 hX.2.1 h0 ((hX.2.2.2.2.1.1.2 2 _ rfl).1 n _) (fun q => by cases q) (by show ¬ (i < 0 ∨ (arrV _ _ _).slots.size ≤ _); rw [arrV_size]; exact hin) rfl rfl hd fun H' e1 e2 e3 => ?_
  refine kk H' _ cells slots ls hl (hR.upd hk e2 e3 (fun j h => v_wr_n h) (fun j h => rfl) (fun j h => rfl) ?_) (fun q hq => ?_) hc hs
  · show H'[v_o E + k]? = some (arrV (E.2.2.1 3) n (v_av E P (v_wr M k i.toNatClampNeg (vp_nar .byte x)) 3 k))
    rw [e1, arrV_store]
    congr 2
    funext j
    by_cases hj : j = i.toNatClampNeg
    · subst hj; simp [updV, v_av, v_wr, v_wl, upd, vp_updL, vp_nar]; try rfl
    · simp [updV, v_av, v_wr, v_wl, upd, vp_updL, hj]
  · rcases List.mem_append.mp hq with h | h
    · exact hlo q h
    · rw [List.mem_singleton.mp h]; exact Nat.le_add_right _ _
theorem V.last (hX : v_K E X cc own nL d) {k n : Nat} {i : Int32} {x : Int64} (hk : sh[k]? = some (4, n)) (hin : vp_in i n) (hd : decode cc pc = .ok (.lastore, 1)) (kk : V E X b (pc + 1) lv st sh P (v_wl M k i.toNatClampNeg x)) : V E X b pc lv (.long x :: .int i :: v_rf E k :: st) sh P M := by
  obtain ⟨p, e, R, s, m, args, below, meth, c, Q⟩ := X
  intro H locs cells slots ls hl hR hlo hc hs
  have h0 : H[v_o E + k]? = some (arrV (E.2.2.1 4) n (v_av E P M 4 k)) := hR.2.2 k _ hk
  refine W.last hX.1 hX.2.1 h0 ((hX.2.2.2.2.1.1.2 3 _ rfl).1 n _) (fun q => by cases q) (by show ¬ (i < 0 ∨ (arrV _ _ _).slots.size ≤ _); rw [arrV_size]; exact hin) rfl rfl hd fun H' e1 e2 e3 => ?_
  refine kk H' _ cells slots ls hl (hR.upd hk e2 e3 (fun j h => rfl) (fun j h => v_wl_n h) (fun j h => rfl) ?_) (fun q hq => ?_) hc hs
  · show H'[v_o E + k]? = some (arrV (E.2.2.1 4) n (v_av E P (v_wl M k i.toNatClampNeg x) 4 k))
    rw [e1, arrV_store]
    congr 2
    funext j
    by_cases hj : j = i.toNatClampNeg
    · subst hj; simp [updV, v_av, v_wr, v_wl, upd, vp_updL, vp_nar]; try rfl
    · simp [updV, v_av, v_wr, v_wl, upd, vp_updL, hj]
  · rcases List.mem_append.mp hq with h | h
    · exact hlo q h
    · rw [List.mem_singleton.mp h]; exact Nat.le_add_right _ _
theorem V.aastO (hX : v_K E X cc own nL d) {k n q : Nat} {i : Int32} (hk : sh[k]? = some (5, n)) (hq : sh[q]? = some (0, 5)) (hin : vp_in i n) (hd : decode cc pc = .ok (.aastore, 1)) (kk : V E X b (pc + 1) lv st sh (v_wp P k i.toNatClampNeg (some q)) M) : V E X b pc lv (v_rf E q :: .int i :: v_rf E k :: st) sh P M := by
  obtain ⟨p, e, R, s, m, args, below, meth, c, Q⟩ := X
  intro H locs cells slots ls hl hR hlo hc hs
  have h0 : H[v_o E + k]? = some (arrV (E.2.2.1 5) n (v_av E P M 5 k)) := hR.2.2 k _ hk
  have hlt : i.toNatClampNeg < n := Nat.not_le.mp fun q => hin (Or.inr q)
  have hn0 : ¬ i < 0 := fun q => hin (Or.inl q)
  obtain ⟨hci, cellV, g1, g2, g3, -⟩ := hR.2.2 q _ hq
  have hK := hX.2.2.2.2.1.1
  have hcls := (hK.1 5 _ (v_cl 5 (by decide))).2
  obtain ⟨kA, comp, k1, k2, k3, -⟩ := (hK.2 4 _ rfl).2
  have hcomp : comp = E.2.1.1 5 := Option.some.inj (k3.symm.trans hcls.1)
  subst hcomp
  obtain ⟨kC, hkC, -⟩ := hcls.2
  refine W.aast hX.1 hX.2.1 h0 (fun q h => by cases h) (fun h => by cases h) k1 k2 rfl hkC ⟨hn0, by show _ < (arrV _ _ _).slots.size; rw [arrV_size]; exact hlt⟩ g1 (fun q h => by rw [g3] at h; cases h) (by rw [g2]; exact hkC) (by rw [g2]; exact va_assign hcls) rfl rfl hd fun H' e1 e2 e3 => ?_
  refine kk H' _ cells slots ls hl (hR.upd hk e2 e3 (fun j h => rfl) (fun j h => rfl) (fun j h => v_wp_n h) ?_) (fun q hq => ?_) hc hs
  · show H'[v_o E + k]? = some (arrV (E.2.2.1 5) n (v_av E (v_wp P k i.toNatClampNeg (some q)) M 5 k))
    rw [e1, arrV_store]
    congr 2
    funext j
    by_cases hj : j = i.toNatClampNeg
    · subst hj; simp [updV, v_av, v_wp, v_rq, v_rf]
    · simp [updV, v_av, v_wp, hj]
  · rcases List.mem_append.mp hq with h | h
    · exact hlo q h
    · rw [List.mem_singleton.mp h]; exact Nat.le_add_right _ _
theorem V.aastF (hX : v_K E X cc own nL d) {k n q : Nat} {i : Int32} (hk : sh[k]? = some (6, n)) (hq : sh[q]? = some (0, 4)) (hin : vp_in i n) (hd : decode cc pc = .ok (.aastore, 1)) (kk : V E X b (pc + 1) lv st sh (v_wp P k i.toNatClampNeg (some q)) M) : V E X b pc lv (v_rf E q :: .int i :: v_rf E k :: st) sh P M := by
  obtain ⟨p, e, R, s, m, args, below, meth, c, Q⟩ := X
  intro H locs cells slots ls hl hR hlo hc hs
  have h0 : H[v_o E + k]? = some (arrV (E.2.2.1 6) n (v_av E P M 6 k)) := hR.2.2 k _ hk
  have hlt : i.toNatClampNeg < n := Nat.not_le.mp fun q => hin (Or.inr q)
  have hn0 : ¬ i < 0 := fun q => hin (Or.inl q)
  obtain ⟨hci, cellV, g1, g2, g3, -⟩ := hR.2.2 q _ hq
  have hK := hX.2.2.2.2.1.1
  have hcls := (hK.1 4 _ (v_cl 4 (by decide))).2
  obtain ⟨kA, comp, k1, k2, k3, -⟩ := (hK.2 5 _ rfl).2
  have hcomp : comp = E.2.1.1 4 := Option.some.inj (k3.symm.trans hcls.1)
  subst hcomp
  obtain ⟨kC, hkC, -⟩ := hcls.2
  refine W.aast hX.1 hX.2.1 h0 (fun q h => by cases h) (fun h => by cases h) k1 k2 rfl hkC ⟨hn0, by show _ < (arrV _ _ _).slots.size; rw [arrV_size]; exact hlt⟩ g1 (fun q h => by rw [g3] at h; cases h) (by rw [g2]; exact hkC) (by rw [g2]; exact va_assign hcls) rfl rfl hd fun H' e1 e2 e3 => ?_
  refine kk H' _ cells slots ls hl (hR.upd hk e2 e3 (fun j h => rfl) (fun j h => rfl) (fun j h => v_wp_n h) ?_) (fun q hq => ?_) hc hs
  · show H'[v_o E + k]? = some (arrV (E.2.2.1 6) n (v_av E (v_wp P k i.toNatClampNeg (some q)) M 6 k))
    rw [e1, arrV_store]
    congr 2
    funext j
    by_cases hj : j = i.toNatClampNeg
    · subst hj; simp [updV, v_av, v_wp, v_rq, v_rf]
    · simp [updV, v_av, v_wp, hj]
  · rcases List.mem_append.mp hq with h | h
    · exact hlo q h
    · rw [List.mem_singleton.mp h]; exact Nat.le_add_right _ _
theorem V.alen (hX : v_K E X cc own nL d) {k t n : Nat} {v : Int32} (hk : sh[k]? = some (t, n)) (ht : 0 < t ∧ t < 7) (hv : Int32.ofNat n = v) (hd : decode cc pc = .ok (.arraylength, 1)) (kk : V E X b (pc + 1) lv (.int v :: st) sh P M) : V E X b pc lv (v_rf E k :: st) sh P M := by
  obtain ⟨p, e, R, s, m, args, below, meth, c, Q⟩ := X
  intro H locs cells slots ls hl hR hlo hc hs
  have h0 := hR.2.2 k _ hk
  have hK := hX.2.2.2.2.1.1
  obtain ⟨ty, hty⟩ : ∃ ty, ArrOfT s (E.2.2.1 t) ty := by
    rcases (show t = 1 ∨ t = 2 ∨ t = 3 ∨ t = 4 ∨ t = 5 ∨ t = 6 by omega) with rfl | rfl | rfl | rfl | rfl | rfl
    · exact ⟨_, (hK.2 0 _ rfl).1⟩
    · exact ⟨_, (hK.2 1 _ rfl).1⟩
    · exact ⟨_, (hK.2 2 _ rfl).1⟩
    · exact ⟨_, (hK.2 3 _ rfl).1⟩
    · exact ⟨_, (hK.2 4 _ rfl).1⟩
    · exact ⟨_, (hK.2 5 _ rfl).1⟩
  obtain ⟨t, rfl⟩ : ∃ u, t = u + 1 := ⟨t - 1, by omega⟩
  have h0 : H[v_o E + k]? = some (arrV (E.2.2.1 (t + 1)) n (v_av E P M (t + 1) k)) := h0
  exact W.alen (n := v) hX.1 hX.2.1 h0 (hty n _) (by rw [arrV_size]; exact hv) rfl rfl hd (kk H locs cells slots ls hl hR hlo hc hs)
end VR2
