/-! changes of parts, thought of -/
def cgg (o : Int32) (pt ls : Nat → Nat) (g : Nat → Nat) : Nat → Nat → Int
  | 0, i => g i
  | c + 1, i => if ((o >>> (nI c &&& 31)) &&& 1) = 1 ∧ i = pt c then cgg o pt ls g c i - ls c else cgg o pt ls g c i
def cgs (o : Int32) (pt : Nat → Nat) (dl s : Nat → Int32) : Nat → Nat → Int32
  | 0, i => s i
  | c + 1, i => if ((o >>> (nI c &&& 31)) &&& 1) = 1 ∧ i = pt c then cgs o pt dl s c i + dl c else cgs o pt dl s c i
theorem cgg_b {o : Int32} {pt ls g : Nat → Nat} {i : Nat} : ∀ c : Nat, (∀ k, k < c → ls k ≤ 99) → cgg o pt ls g c i ≤ g i ∧ (g i : Int) - 99 * c ≤ cgg o pt ls g c i := by
  intro c
  induction c with
  | zero => intro _; unfold cgg; omega
  | succ c ih =>
    intro h
    have := ih (fun k hk => h k (by omega))
    have := h c (by omega)
    unfold cgg
    split <;> omega
theorem cgs_add {o : Int32} {pt : Nat → Nat} {dl s t : Nat → Int32} : ∀ c i : Nat, cgs o pt dl s c i + t i = cgs o pt dl (fun i => s i + t i) c i := by
  intro c
  induction c with
  | zero => intro i; rfl
  | succ c ih =>
    intro i
    unfold cgs
    rw [← ih]
    split
    · rw [Int32.add_assoc, Int32.add_comm (dl c), ← Int32.add_assoc]
    · rfl
def ChC (A : v_M) (pt ls : Nat → Nat) (md sd : Nat → Int32) (nc : Nat) : Prop := A.1 29 0 = nI nc ∧ ∀ c, c < nc → A.1 30 c = nI (pt c) ∧ A.1 31 c = nI (ls c) ∧ A.1 32 c = md c ∧ A.1 33 c = sd c
def ChR (A : v_M) (pt ls : Nat → Nat) (md sd : Nat → Int32) (nc : Nat) : Prop := A.1 79 25 = nI nc ∧ ∀ c, c < nc → A.1 101 c = nI (pt c) ∧ A.1 102 c = nI (ls c) ∧ A.1 103 c = md c ∧ A.1 104 c = sd c
def ChB (np : Nat) (pt ls : Nat → Nat) (nc : Nat) : Prop := nc ≤ 8 ∧ ∀ c, c < nc → pt c < np ∧ ls c ≤ 99
theorem ChC.keep {W : List Nat} {O : List (Nat × Nat)} {M M' : v_M} {pt ls : Nat → Nat} {md sd : Nat → Int32} {nc : Nat} (hf : v_fr W O M M') (hk : ([30, 31, 32, 33].all (fun k => !(W.contains k || O.any (fun q => q.1 == k)))) = true) (h1 : (W.contains 29 || O.contains (29, 0)) = false) (h : ChC M pt ls md sd nc) : ChC M' pt ls md sd nc := by
  have e : ∀ k ∈ [30, 31, 32, 33], M'.1 k = M.1 k := fun k hm => v_keepR hf k (by have := List.all_eq_true.mp hk k hm; simpa using this)
  unfold ChC at h ⊢
  rw [v_keepC hf 29 0 h1, e 30 (by decide), e 31 (by decide), e 32 (by decide), e 33 (by decide)]
  exact h
theorem ChR.keep {W : List Nat} {O : List (Nat × Nat)} {M M' : v_M} {pt ls : Nat → Nat} {md sd : Nat → Int32} {nc : Nat} (hf : v_fr W O M M') (hk : ([101, 102, 103, 104].all (fun k => !(W.contains k || O.any (fun q => q.1 == k)))) = true) (h1 : (W.contains 79 || O.contains (79, 25)) = false) (h : ChR M pt ls md sd nc) : ChR M' pt ls md sd nc := by
  have e : ∀ k ∈ [101, 102, 103, 104], M'.1 k = M.1 k := fun k hm => v_keepR hf k (by have := List.all_eq_true.mp hk k hm; simpa using this)
  unfold ChR at h ⊢
  rw [v_keepC hf 79 25 h1, e 101 (by decide), e 102 (by decide), e 103 (by decide), e 104 (by decide)]
  exact h
theorem e_apply1 (N : Nat) {pt ls g : Nat → Nat} {md sd k0 s0 : Nat → Int32} {nc np : Nat} (o : Int32) (hn : np ≤ 24) (hC : ChB np pt ls nc) (hg : ∀ i, i < np → g i ≤ 999) : ∀ (s c f : Nat) (M : v_M), c + s = nc → s < f → ChC M pt ls md sd nc → (∀ i, i < np → M.1 19 i = nI (cgg o pt ls g c i).toNat ∧ M.1 21 i = cgs o pt md k0 c i ∧ M.1 20 i = cgs o pt sd s0 c i) → ∃ M' : v_M, f_X1_applyTo_L2 N f o (nI c) M = some (0, M') ∧ v_fr [19, 20, 21] [] M M' ∧ ∀ i, i < np → M'.1 19 i = nI (cgg o pt ls g nc i).toNat ∧ M'.1 21 i = cgs o pt md k0 nc i ∧ M'.1 20 i = cgs o pt sd s0 nc i := by
  intro s
  obtain ⟨h8, hc⟩ := hC
  induction s with
  | zero =>
    intro c f M hk hf hM h
    obtain ⟨f, rfl⟩ : ∃ q, f = q + 1 := ⟨f - 1, by omega⟩
    have : c = nc := by omega
    subst this
    rw [f_X1_applyTo_L2, hM.1, if_pos (nI_le (by omega) (by omega))]
    exact ⟨M, rfl, v_frR, h⟩
  | succ s ih =>
    intro c f M hk hf hM h
    obtain ⟨f, rfl⟩ : ∃ q, f = q + 1 := ⟨f - 1, by omega⟩
    obtain ⟨r1, r2, r3, r4⟩ := hM.2 c (by omega)
    obtain ⟨p1, p2⟩ := hc c (by omega)
    rw [f_X1_applyTo_L2, hM.1, if_neg (nI_ge (show c < nc by omega) (by omega))]
    simp only [v_ibN (show c < 8 by omega) (show 8 < 2 ^ 31 by omega), nI_clamp (show c < 2 ^ 31 by omega), v_ckT, v_letE, r1, e_within, Option.bind_some, f_X1_applyTo_L95, nI_1]
    by_cases z : ((o >>> (nI c &&& 31)) &&& 1) = 1
    · obtain ⟨u1, u2, u3⟩ := h (pt c) p1
      obtain ⟨b1, b2⟩ := cgg_b (o := o) (pt := pt) (ls := ls) (g := g) (i := pt c) c (fun k hk => (hc k (by omega)).2)
      have gb := hg (pt c) p1
      rw [if_pos z, v_wiTe (show (0 : Int32) ≤ nI (pt c) ∧ nI (pt c) ≤ 23 from ⟨nI_le (a := 0) (by omega) (by omega), nI_le (b := 23) (by omega) (by omega)⟩)]
      simp only [v_ibN (show pt c < 24 by omega) (show 24 < 2 ^ 31 by omega), nI_clamp (show pt c < 2 ^ 31 by omega), v_ckT, v_rdn, ne_eq, Nat.reduceEqDiff, not_false_eq_true, u1, u2, u3, r2, r3, r4]
      rw [v_mx0 (by omega) (by omega)]
      have fr : v_fr [19, 20, 21] [] M (v_wr (v_wr (v_wr M 19 (pt c) (nI ((cgg o pt ls g c (pt c)).toNat - ls c))) 21 (pt c) (cgs o pt md k0 c (pt c) + md c)) 20 (pt c) (cgs o pt sd s0 c (pt c) + sd c)) := v_frw (by decide) (v_frw (by decide) (v_frw (by decide) v_frR))
      obtain ⟨M', q1, q2, q3⟩ := ih (c + 1) f _ (by omega) (by omega) (hM.keep fr (by decide) (by decide)) (fun i hi => by
        simp only [v_rd, Nat.reduceEqDiff, false_and, if_false, true_and, cgg, cgs, z]
        obtain ⟨w1, w2, w3⟩ := h i hi
        by_cases q : i = pt c
        · rw [if_pos q, if_pos q, if_pos q, if_pos q, if_pos q, if_pos q, q]
          exact ⟨by congr 1; omega, rfl, rfl⟩
        · rw [if_neg q, if_neg q, if_neg q, if_neg q, if_neg q, if_neg q]
          exact ⟨w1, w2, w3⟩)
      exact ⟨M', q1, v_frT fr q2, q3⟩
    · rw [if_neg z]
      exact ih (c + 1) f M (by omega) (by omega) hM (fun i hi => by
        simp only [cgg, cgs, z, false_and, if_false]
        exact h i hi)
theorem e_apply {N : Nat} (hN : 100 ≤ N) {D : Dw} {kd st mk : Nat → Int32} {g w e pt ls : Nat → Nat} {md sd : Nat → Int32} {np nc : Nat} (o : Int32) (hD : DwB D np) (hB : DoB np g w e) (hC : ChB np pt ls nc) {A : v_M} (hR : DrC A D kd np) (hO : DoC A np g w e st mk) (hA : ChC A pt ls md sd nc) : ∃ A' : v_M, f_X1_applyTo N o A = some (0, A') ∧ v_fr [19, 20, 21] [] A A' ∧ DrC A' D kd np ∧ DoC A' np (fun i => (cgg o pt ls g nc i).toNat) w e (cgs o pt sd st nc) (cgs o pt md mk nc) := by
  have h24 := hD.1
  have h8 := hC.1
  obtain ⟨A', p1, p2, p3⟩ := e_apply1 N (g := g) (md := md) (sd := sd) (k0 := A.1 21) (s0 := st) o h24 hC (fun i hi => (hB.1 i hi).1) nc 0 N A (by omega) (by omega) hA (fun i hi => by
    obtain ⟨o1, o2, o3, o4, o5⟩ := hO i hi
    exact ⟨by rw [o1]; rfl, rfl, o4⟩)
  refine ⟨A', p1, p2, hR.keep p2 (by decide) (by decide), fun i hi => ?_⟩
  obtain ⟨o1, o2, o3, o4, o5⟩ := hO i hi
  obtain ⟨q1, q2, q3⟩ := p3 i hi
  refine ⟨q1, by rw [v_keepR p2 22 (by decide)]; exact o2, by rw [v_keepR p2 24 (by decide)]; exact o3, q3, ?_⟩
  rw [v_keepR p2 23 (by decide), q2, cgs_add]
  have : ∀ c, cgs o pt md (fun i => A.1 21 i + A.1 23 i) c i = cgs o pt md mk c i := fun c => by
    induction c with
    | zero => exact o5
    | succ c ih => unfold cgs; rw [ih]
  exact this nc
theorem e_clamp (N : Nat) {np : Nat} {G : Nat → Int} (hn : np ≤ 24) : ∀ (s k f : Nat) (M : v_M), k + s = np → s < f → M.1 79 2 = nI np → (∀ i, i < k → M.1 94 i = nI (G i).toNat) → (∀ i, k ≤ i → i < np → (M.1 94 i).toInt = G i) → ∃ M' : v_M, f_X12_alters_L87 N f (nI k) M = some (0, M') ∧ v_fr [94] [] M M' ∧ ∀ i, i < np → M'.1 94 i = nI (G i).toNat := by
  intro s
  induction s with
  | zero =>
    intro k f M hk hf e h1 h2
    obtain ⟨f, rfl⟩ : ∃ q, f = q + 1 := ⟨f - 1, by omega⟩
    rw [f_X12_alters_L87, e, if_pos (nI_le (by omega) (by omega))]
    exact ⟨M, rfl, v_frR, fun i hi => h1 i (by omega)⟩
  | succ s ih =>
    intro k f M hk hf e h1 h2
    obtain ⟨f, rfl⟩ : ∃ q, f = q + 1 := ⟨f - 1, by omega⟩
    have hk2 := h2 k (Nat.le_refl _) (by omega)
    have step : f_X12_alters_L87 N (f + 1) (nI k) M = f_X12_alters_L87 N f (nI (k + 1)) (v_wr M 94 k (nI (G k).toNat)) := by
      rw [f_X12_alters_L87, e, if_neg (nI_ge (show k < np by omega) (by omega))]
      simp only [v_ibN (show k < 24 by omega) (show 24 < 2 ^ 31 by omega), nI_clamp (show k < 2 ^ 31 by omega), v_ckT, v_letE, f_X12_alters_L119, nI_1]
      by_cases z : 0 ≤ M.1 94 k
      · rw [if_pos z]
        have z' := i_le.mp z
        rw [i0] at z'
        have := Int32.toInt_lt (M.1 94 k)
        have e2 : M.1 94 k = nI (G k).toNat := by rw [i_eq, nI_toInt (by omega)]; omega
        rw [← e2]
      · rw [if_neg z]
        rw [i_le, i0] at z
        rw [show (G k).toNat = 0 by omega]
        rfl
    rw [step]
    have fr : v_fr [94] [] M (v_wr M 94 k (nI (G k).toNat)) := v_frw (by decide) v_frR
    obtain ⟨M', q1, q2, q3⟩ := ih (k + 1) f (v_wr M 94 k (nI (G k).toNat)) (by omega) (by omega) (by rw [v_rdn (by decide), e]) (fun i hi => by
      rw [v_rd]
      by_cases q : i = k
      · rw [if_pos ⟨rfl, q⟩, q]
      · rw [if_neg (fun z => q z.2)]; exact h1 i (by omega)) (fun i hi hn => by rw [v_rd, if_neg (fun z => by omega)]; exact h2 i (by omega) hn)
    exact ⟨M', q1, v_frT fr q2, q3⟩
theorem e_alter1 {N : Nat} (hN : 100 ≤ N) {pt ls g : Nat → Nat} {md sd k0 s0 : Nat → Int32} {nc np : Nat} (o : Int32) (hn : np ≤ 24) (hC : ChB np pt ls nc) (hg : ∀ i, i < np → g i ≤ 999) : ∀ (s c f : Nat) (M : v_M), c + s = nc → s < f → M.1 79 2 = nI np → ChR M pt ls md sd nc → (∀ i, i < np → (M.1 94 i).toInt = cgg o pt ls g c i ∧ M.1 95 i = cgs o pt md k0 c i ∧ M.1 96 i = cgs o pt sd s0 c i) → ∃ M' : v_M, f_X12_alters_L2 N f o (nI c) M = some (0, M') ∧ v_fr [94, 95, 96] [] M M' ∧ ∀ i, i < np → M'.1 94 i = nI (cgg o pt ls g nc i).toNat ∧ M'.1 95 i = cgs o pt md k0 nc i ∧ M'.1 96 i = cgs o pt sd s0 nc i := by
  intro s
  obtain ⟨h8, hc⟩ := hC
  induction s with
  | zero =>
    intro c f M hk hf e hM h
    obtain ⟨f, rfl⟩ : ∃ q, f = q + 1 := ⟨f - 1, by omega⟩
    have : c = nc := by omega
    subst this
    rw [f_X12_alters_L2, hM.1, if_pos (nI_le (by omega) (by omega))]
    obtain ⟨M', p1, p2, p3⟩ := e_clamp N (G := cgg o pt ls g c) hn np 0 N M (by omega) (by omega) e (fun i hi => absurd hi (by omega)) (fun i _ hi => (h i hi).1)
    exact ⟨M', p1, v_frt (W := [94, 95, 96]) (O := []) (by decide) (by decide) v_frR p2, fun i hi => ⟨p3 i hi, by rw [v_keepR p2 95 (by decide)]; exact (h i hi).2.1, by rw [v_keepR p2 96 (by decide)]; exact (h i hi).2.2⟩⟩
  | succ s ih =>
    intro c f M hk hf e hM h
    obtain ⟨f, rfl⟩ : ∃ q, f = q + 1 := ⟨f - 1, by omega⟩
    obtain ⟨r1, r2, r3, r4⟩ := hM.2 c (by omega)
    obtain ⟨p1, p2⟩ := hc c (by omega)
    rw [f_X12_alters_L2, hM.1, if_neg (nI_ge (show c < nc by omega) (by omega))]
    simp only [v_ibN (show c < 8 by omega) (show 8 < 2 ^ 31 by omega), nI_clamp (show c < 2 ^ 31 by omega), v_ckT, v_letE, f_X12_alters_L79, nI_1]
    by_cases z : ((o >>> (nI c &&& 31)) &&& 1) = 1
    · obtain ⟨u1, u2, u3⟩ := h (pt c) p1
      obtain ⟨b1, b2⟩ := cgg_b (o := o) (pt := pt) (ls := ls) (g := g) (i := pt c) c (fun k hk => (hc k (by omega)).2)
      have gb := hg (pt c) p1
      rw [if_pos z]
      simp only [v_rdn, ne_eq, Nat.reduceEqDiff, not_false_eq_true, r1, r2, r3, r4, v_ibN (show pt c < 24 by omega) (show 24 < 2 ^ 31 by omega), nI_clamp (show pt c < 2 ^ 31 by omega), v_ckT, u2, u3]
      have eg : (M.1 94 (pt c) - nI (ls c)).toInt = cgg o pt ls g c (pt c) - ls c := by
        rw [Jvm.Kit.i32_sub (by rw [u1, nI_toInt (by omega)]; omega) (by rw [u1, nI_toInt (by omega)]; omega), u1, nI_toInt (by omega)]
      have fr : v_fr [94, 95, 96] [] M (v_wr (v_wr (v_wr M 94 (pt c) (M.1 94 (pt c) - nI (ls c))) 95 (pt c) (cgs o pt md k0 c (pt c) + md c)) 96 (pt c) (cgs o pt sd s0 c (pt c) + sd c)) := v_frw (by decide) (v_frw (by decide) (v_frw (by decide) v_frR))
      obtain ⟨M', q1, q2, q3⟩ := ih (c + 1) f _ (by omega) (by omega) (by rw [v_keepC fr 79 2 (by decide), e]) (hM.keep fr (by decide) (by decide)) (fun i hi => by
        simp only [v_rd, Nat.reduceEqDiff, false_and, if_false, true_and, cgg, cgs, z]
        obtain ⟨w1, w2, w3⟩ := h i hi
        by_cases q : i = pt c
        · rw [if_pos q, if_pos q, if_pos q, if_pos q, if_pos q, if_pos q, q]
          exact ⟨eg, rfl, rfl⟩
        · rw [if_neg q, if_neg q, if_neg q, if_neg q, if_neg q, if_neg q]
          exact ⟨w1, w2, w3⟩)
      exact ⟨M', q1, v_frT fr q2, q3⟩
    · rw [if_neg z]
      exact ih (c + 1) f M (by omega) (by omega) e hM (fun i hi => by
        simp only [cgg, cgs, z, false_and, if_false]
        exact h i hi)
theorem e_alter {N : Nat} (hN : 100 ≤ N) {D : Dw} {kd st mk : Nat → Int32} {g w e pt ls : Nat → Nat} {md sd : Nat → Int32} {np nc : Nat} (o : Int32) (hD : DwB D np) (hB : DoB np g w e) (hC : ChB np pt ls nc) {A : v_M} (hR : DrR A D kd np) (hO : DoR A np g w e st mk) (hA : ChR A pt ls md sd nc) : ∃ A' : v_M, f_X12_alters N o A = some (0, A') ∧ v_fr [94, 95, 96] [] A A' ∧ DrR A' D kd np ∧ DoR A' np (fun i => (cgg o pt ls g nc i).toNat) w e (cgs o pt sd st nc) (cgs o pt md mk nc) := by
  have h24 := hD.1
  have h8 := hC.1
  obtain ⟨A', p1, p2, p3⟩ := e_alter1 hN (g := g) (md := md) (sd := sd) (k0 := mk) (s0 := st) o h24 hC (fun i hi => (hB.1 i hi).1) nc 0 N A (by omega) (by omega) hR.1 hA (fun i hi => by
    obtain ⟨o1, o2, o3, o4, o5⟩ := hO i hi
    have := (hB.1 i hi).1
    exact ⟨by rw [o1, nI_toInt (by omega)]; rfl, o5, o4⟩)
  refine ⟨A', p1, p2, hR.keep p2 (by decide) (by decide), fun i hi => ?_⟩
  obtain ⟨o1, o2, o3, o4, o5⟩ := hO i hi
  obtain ⟨q1, q2, q3⟩ := p3 i hi
  exact ⟨q1, by rw [v_keepR p2 97 (by decide)]; exact o2, by rw [v_keepR p2 98 (by decide)]; exact o3, q3, q2⟩
theorem cg_B {np : Nat} {g w e pt ls : Nat → Nat} {nc : Nat} (o : Int32) (hB : DoB np g w e) (hC : ChB np pt ls nc) : DoB np (fun i => (cgg o pt ls g nc i).toNat) w e := ⟨fun i hi => by
  obtain ⟨b1, b2, b3⟩ := hB.1 i hi
  have := cgg_b (o := o) (pt := pt) (ls := ls) (g := g) (i := i) nc (fun k hk => (hC.2 k hk).2)
  refine ⟨?_, b2, b3⟩
  show (cgg o pt ls g nc i).toNat ≤ 999
  omega, hB.2⟩
theorem bit0 : ∀ c : Nat, c < 8 → ¬ (((0 : Int32) >>> (nI c &&& 31)) &&& 1) = 1 := by decide +kernel
theorem cgg_0 {pt ls g : Nat → Nat} {i : Nat} : ∀ c : Nat, c ≤ 8 → cgg 0 pt ls g c i = g i := by
  intro c
  induction c with
  | zero => intro _; rfl
  | succ c ih => intro h; unfold cgg; rw [if_neg (fun z => bit0 c (by omega) z.1)]; exact ih (by omega)
theorem cgs_0 {pt : Nat → Nat} {dl s : Nat → Int32} {i : Nat} : ∀ c : Nat, c ≤ 8 → cgs 0 pt dl s c i = s i := by
  intro c
  induction c with
  | zero => intro _; rfl
  | succ c ih => intro h; unfold cgs; rw [if_neg (fun z => bit0 c (by omega) z.1)]; exact ih (by omega)
theorem J_chgc.ch {M : v_M} {np nc : Nat} (hn : np ≤ 24) (h : J_chgc M np nc) : ChB np (fun i => tN (M.1 30 i)) (fun i => tN (M.1 31 i)) nc ∧ ChC M (fun i => tN (M.1 30 i)) (fun i => tN (M.1 31 i)) (M.1 32) (M.1 33) nc ∧ ChR M (fun i => tN (M.1 30 i)) (fun i => tN (M.1 31 i)) (M.1 32) (M.1 33) nc := by
  obtain ⟨h8, e1, e2, h⟩ := h
  have k : ∀ i, i < nc → (M.1 30 i = nI (tN (M.1 30 i)) ∧ tN (M.1 30 i) < np) ∧ M.1 31 i = nI (tN (M.1 31 i)) ∧ tN (M.1 31 i) ≤ 99 := fun i hi => by
    obtain ⟨-, ⟨j, hj, ej⟩, b, -⟩ := h i hi
    have t := tN_bt (a := 0) (n := 99) b
    refine ⟨?_, t.1, t.2.2⟩
    have : tN (nI j) = j := by unfold tN; rw [nI_toInt (by omega)]; rfl
    rw [ej, this]
    exact ⟨rfl, hj⟩
  refine ⟨⟨h8, fun c hc => ⟨(k c hc).1.2, (k c hc).2.2⟩⟩, ⟨e1, fun c hc => ⟨(k c hc).1.1, (k c hc).2.1, rfl, rfl⟩⟩, ⟨e2, fun c hc => ?_⟩⟩
  obtain ⟨⟨r1, r2, r3, r4, -⟩, -⟩ := h c hc
  exact ⟨by rw [r1]; exact (k c hc).1.1, by rw [r2]; exact (k c hc).2.1, r3, r4⟩
