/-! cheapest -/
theorem e_coin1 (N : Nat) {nc : Nat} (h8 : nc ≤ 8) (o : Int32) {co : Nat → Int32} {M : v_M} (e : M.1 29 0 = nI nc) (h : ∀ c, c < nc → M.1 34 c = co c) : ∀ (s c f : Nat) (r : Int32), c + s = nc → s < f → f_X1_coinsOf_L4 N f o r (nI c) M = some (cso o co s c r, M) := by
  intro s
  induction s with
  | zero =>
    intro c f r hc hf
    obtain ⟨f, rfl⟩ : ∃ q, f = q + 1 := ⟨f - 1, by omega⟩
    rw [f_X1_coinsOf_L4, e, if_pos (nI_le (by omega) (by omega))]
    rfl
  | succ s ih =>
    intro c f r hc hf
    obtain ⟨f, rfl⟩ : ∃ q, f = q + 1 := ⟨f - 1, by omega⟩
    rw [f_X1_coinsOf_L4, e, if_neg (nI_ge (show c < nc by omega) (by omega))]
    simp only [v_ibN (show c < 8 by omega) (show 8 < 2 ^ 31 by omega), nI_clamp (show c < 2 ^ 31 by omega), v_ckT, v_letE, h c (by omega), nI_1, and1m]
    rw [ih (c + 1) f _ (by omega) (by omega), cso]
theorem e_coins {N : Nat} (hN : 100 ≤ N) {nc : Nat} (h8 : nc ≤ 8) (o : Int32) {co : Nat → Int32} {M : v_M} (e : M.1 29 0 = nI nc) (h : ∀ c, c < nc → M.1 34 c = co c) : f_X1_coinsOf N o M = some (cso o co nc 0 0, M) := by
  unfold f_X1_coinsOf
  exact e_coin1 N h8 o e h nc 0 N 0 (by omega) (by omega)
def bcv (x : Int32) : Int32 :=
  v_let ((x - ((x.toUInt32 >>> (((1 : Int32)).toUInt32 &&& Int32.toUInt32 31)).toInt32 &&& (1431655765 : Int32)))) fun y1 => v_let (((y1 &&& (858993459 : Int32)) + (((y1).toUInt32 >>> (((2 : Int32)).toUInt32 &&& Int32.toUInt32 31)).toInt32 &&& (858993459 : Int32)))) fun y2 => v_let (((y2 + ((y2).toUInt32 >>> (((4 : Int32)).toUInt32 &&& Int32.toUInt32 31)).toInt32) &&& (252645135 : Int32))) fun y3 => v_let ((y3 + ((y3).toUInt32 >>> (((8 : Int32)).toUInt32 &&& Int32.toUInt32 31)).toInt32)) fun y4 => v_let ((y4 + ((y4).toUInt32 >>> (((16 : Int32)).toUInt32 &&& Int32.toUInt32 31)).toInt32)) fun y5 => (y5 &&& (63 : Int32))
theorem e_bc1 (N : Nat) (x : Int32) (M : v_M) : f_J6_bitCount_0f7a4 N x M = some (bcv x, M) := by
  unfold f_J6_bitCount_0f7a4 bcv
  rfl
def btl : Nat → Int32 → Int32 → Option Int32
  | 0, _, _ => none
  | n + 1, x1, x2 => if x2 = 0 then some x1 else btl n (x1 + 1) (x2 &&& (x2 - 1))
theorem btl_mono : ∀ (f : Nat) (x1 x2 r : Int32), btl f x1 x2 = some r → ∀ k, btl (f + k) x1 x2 = some r := by
  intro f
  induction f with
  | zero => intro x1 x2 r h; exact absurd h (by rw [btl]; exact fun z => nomatch z)
  | succ f ih =>
    intro x1 x2 r h k
    rw [show f + 1 + k = (f + k) + 1 by omega]
    rw [btl] at h ⊢
    by_cases z : x2 = 0
    · rw [if_pos z] at h ⊢; exact h
    · rw [if_neg z] at h ⊢; exact ih _ _ r h k
theorem e_btl (N : Nat) (M : v_M) : ∀ (f : Nat) (x1 x2 : Int32), f_X12_bits_L4 N f x1 x2 M = (btl f x1 x2).map (fun r => (r, M)) := by
  intro f
  induction f with
  | zero => intro x1 x2; rfl
  | succ f ih =>
    intro x1 x2
    rw [f_X12_bits_L4, btl]
    by_cases z : x2 = 0
    · rw [if_pos z, if_pos z]; rfl
    · rw [if_neg z, if_neg z, v_letE, ih]
theorem btl_all : ∀ j : Nat, j < 256 → btl 9 0 (nI j) = some (bcv (nI j)) := by decide +kernel
theorem e_bc2 {N : Nat} (hN : 100 ≤ N) {j : Nat} (hj : j < 256) (M : v_M) : f_X12_bits N (nI j) M = some (bcv (nI j), M) := by
  unfold f_X12_bits
  rw [e_btl, show N = 9 + (N - 9) by omega, btl_mono 9 0 (nI j) _ (btl_all j hj) (N - 9)]
  rfl
theorem shl_c : ∀ c : Nat, c < 9 → (1 : Int32) <<< (nI c &&& 31) = nI (2 ^ c) := by decide +kernel
/-- better than the best so far -/
def bet (co : Nat → Int32) (nc : Nat) (o b : Int32) : Bool := decide (cso o co nc 0 0 < cso b co nc 0 0) || (decide (cso o co nc 0 0 = cso b co nc 0 0) && decide (bcv o < bcv b))
theorem e_cheaper {N : Nat} (hN : 100 ≤ N) {nc : Nat} (h8 : nc ≤ 8) {o b : Nat} (hob : b < o) (ho : o < 256) {co : Nat → Int32} {M : v_M} (e : M.1 29 0 = nI nc) (h : ∀ c, c < nc → M.1 34 c = co c) : f_X1_isCheaper N (nI o) (nI b) M = some (v01 (bet co nc (nI o) (nI b)), M) := by
  unfold f_X1_isCheaper bet
  rw [e_coins hN h8 (nI o) e h, Option.bind_some, v_letE, e_coins hN h8 (nI b) e h, Option.bind_some, v_letE]
  simp only [e_bc1, Option.bind_some, v_letE]
  generalize cso (nI o) co nc 0 0 = p
  generalize cso (nI b) co nc 0 0 = q
  by_cases c1 : p = q
  · rw [if_pos c1, decide_eq_true c1, decide_eq_false (show ¬ p < q from fun z => by rw [c1, i_lt] at z; omega), Bool.false_or, Bool.true_and]
    by_cases c2 : bcv (nI o) < bcv (nI b)
    · rw [if_pos c2, decide_eq_true c2]; rfl
    · rw [if_neg c2, decide_eq_false c2]
      by_cases c3 : bcv (nI o) = bcv (nI b)
      · rw [if_pos c3, if_pos (nI_le (by omega) (by omega))]; rfl
      · rw [if_neg c3]; rfl
  · rw [if_neg c1, decide_eq_false c1, Bool.false_and, Bool.or_false]
    by_cases c2 : p < q
    · rw [if_neg (fun z => by rw [i_le] at z; rw [i_lt] at c2; omega), decide_eq_true c2]; rfl
    · rw [if_pos (by rw [i_le]; rw [i_lt] at c2; omega), decide_eq_false c2]; rfl
theorem e_cost2 {N : Nat} (hN : 100 ≤ N) {nc : Nat} (h8 : nc ≤ 8) {co : Nat → Int32} {M : v_M} (e : M.1 79 25 = nI nc) (h : ∀ c, c < nc → M.1 105 c = co c) (K : Int32 → Int32 → Int32 → Int32 → Int32 → Int32 → Int32 → Int32 → Int32 → v_M → Option (Int32 × v_M)) (x1 x2 x3 x4 x5 x6 best ls : Int32) {o : Nat} (ho : o < 256) (hb : best = -2 ∨ ∃ b : Nat, b < o ∧ best = nI b ∧ ls = cso (nI b) co nc 0 0) : ∀ (s c f : Nat) (r : Int32), c + s = nc → s < f → cso (nI o) co s c r = cso (nI o) co nc 0 0 → f_X12_cheapest_L45 N K f x1 x2 x3 x4 x5 x6 best ls (nI o) r (nI c) M = f_X12_cheapest_L126 N K x1 x2 x3 x4 x5 x6 best ls (nI o) (cso (nI o) co nc 0 0) (v01 (decide (best = -2) || bet co nc (nI o) best)) M := by
  intro s
  induction s with
  | zero =>
    intro c f r hc hf hr
    obtain ⟨f, rfl⟩ : ∃ q, f = q + 1 := ⟨f - 1, by omega⟩
    have hr' : r = cso (nI o) co nc 0 0 := hr
    rw [f_X12_cheapest_L45, e, if_pos (nI_le (by omega) (by omega)), hr']
    unfold f_X12_cheapest_L121 f_X12_cheapest_L125
    by_cases z : best = -2
    · rw [if_pos z, decide_eq_true z]; rfl
    · rw [if_neg z, decide_eq_false z, Bool.false_or]
      rcases hb with q | ⟨b, h1, h2, h3⟩
      · exact absurd q z
      · rw [h2, h3]
        simp only [e_bc2 hN ho, e_bc2 hN (show b < 256 by omega), Option.bind_some]
        unfold bet
        generalize cso (nI o) co nc 0 0 = p
        generalize cso (nI b) co nc 0 0 = q
        by_cases c1 : p < q
        · rw [if_pos c1, decide_eq_true c1]; rfl
        · rw [if_neg c1, decide_eq_false c1, Bool.false_or]
          by_cases c2 : p = q
          · rw [if_pos c2, decide_eq_true c2, Bool.true_and]
            by_cases c3 : bcv (nI o) < bcv (nI b)
            · rw [if_neg (fun z => by rw [i_le] at z; rw [i_lt] at c3; omega), decide_eq_true c3]; rfl
            · rw [if_pos (by rw [i_le]; rw [i_lt] at c3; omega), decide_eq_false c3]; rfl
          · rw [if_neg c2, decide_eq_false c2]; rfl
  | succ s ih =>
    intro c f r hc hf hr
    obtain ⟨f, rfl⟩ : ∃ q, f = q + 1 := ⟨f - 1, by omega⟩
    rw [f_X12_cheapest_L45, e, if_neg (nI_ge (show c < nc by omega) (by omega))]
    simp only [v_ibN (show c < 8 by omega) (show 8 < 2 ^ 31 by omega), nI_clamp (show c < 2 ^ 31 by omega), v_ckT, v_letE, h c (by omega), nI_1, f_X12_cheapest_L78]
    rw [cso] at hr
    by_cases z : ((nI o >>> (nI c &&& 31)) &&& 1) = 1
    · rw [if_pos z] at hr ⊢
      exact ih (c + 1) f _ (by omega) (by omega) hr
    · rw [if_neg z] at hr ⊢
      exact ih (c + 1) f _ (by omega) (by omega) hr
theorem J_loadA {N : Nat} {W : List Nat} {M A : v_M} {np nm m : Nat} (hd : J_drawc M np) (hf : J_fleetc M np nm) (hm : m < nm) (fr : v_fr W [] M A) (hk : ([1, 2, 3, 4, 5, 6, 7, 8, 9, 12, 13, 14, 15].all (fun k => !(W.contains k))) = true) : ∃ M' : v_M, f_X2_load N 11 (nI m) A = some (0, M') ∧ v_fr [19, 20, 21, 22, 23, 24, 25] [] A M' ∧ DrC M' (dwO M) (M.1 2) np ∧ DoC M' np (gO M) (wO M m) (eO M m) (M.1 8) (mO M m) := by
  have e : ∀ k ∈ [1, 2, 3, 4, 5, 6, 7, 8, 9, 12, 13, 14, 15], A.1 k = M.1 k := fun k hm => v_keepR fr k (by have := List.all_eq_true.mp hk k hm; simpa using this)
  obtain ⟨b1, b2, b3⟩ := J_door hd hf hm
  have h20 : nm ≤ 20 := hf.2.2.1.1
  obtain ⟨M', p1, p2, p3⟩ := e_load N (show m < 20 by omega) A
  have h24 := hd.1
  have dr : DrC A (dwO M) (M.1 2) np := by
    have := hd.dw.2.1
    unfold DrC at this ⊢
    rw [e 1 (by decide), e 2 (by decide), e 3 (by decide), e 5 (by decide), e 6 (by decide), e 7 (by decide)]
    exact this
  refine ⟨M', p1, p2, dr.keep p2 (by decide) (by decide), fun i hi => ?_⟩
  obtain ⟨q1, q2, q3, q4, q5, q6, q7⟩ := p3 i (by omega)
  obtain ⟨c1, c2, c3⟩ := b2 i hi
  exact ⟨by rw [q1, e 4 (by decide)]; exact c1, by rw [q4, e 12 (by decide)]; exact c2, by rw [q6, e 14 (by decide)]; exact c3, by rw [q2, e 8 (by decide)], by rw [q3, q5, e 9 (by decide), e 13 (by decide)]; rfl⟩
def chW : List Nat := [19, 20, 21, 22, 23, 24, 25, 26, 27]
def chV : List Nat := [19, 20, 21, 22, 23, 24, 25, 26, 27, 94, 95, 96, 97, 98, 99, 100]
theorem e_chp {N : Nat} (hN : 2000 ≤ N) {M : v_M} {np nm nc m a b most : Nat} (x5 x6 : Int32) (hd : J_drawc M np) (hf : J_fleetc M np nm) (hc : J_chgc M np nc) (hm : m < nm) (ha : a < np) (hb : b < np) (hmo : most ≤ 15) : ∀ (s c f f' : Nat) (best lk ls : Int32) (A : v_M), c + s = 2 ^ nc → s < f → s < f' → (lk = -1 ∨ ∃ x y : Nat, x ≤ most ∧ y ≤ most ∧ lk = nI (16 * x + y)) → (best = -2 ∨ ∃ b : Nat, b < c ∧ best = nI b ∧ ls = cso (nI b) (M.1 34) nc 0 0) → v_fr chW [] M A → ∃ (r : Int32) (A' : v_M), f_X11_cheapest_L28 N f (nI m) (nI a) (nI b) (nI most) x5 x6 best lk (nI c) A = some (r, A') ∧ v_fr chW [] M A' ∧ ∀ B, v_fr chV [] M B → ∃ B' : v_M, f_X12_cheapest_L28 N f' (nI m) (nI a) (nI b) (nI most) x5 x6 best ls (nI c) B = some (r, B') ∧ v_fr chV [] M B' := by
  intro s
  have h24 := hd.1
  have h8 := hc.1
  obtain ⟨hD, hC, hR, hK⟩ := hd.dw
  obtain ⟨hB, hB2, -⟩ := J_door hd hf hm
  obtain ⟨k1, k2, k3⟩ := hc.ch h24
  have p256 : 2 ^ nc ≤ 256 := Nat.le_trans (Nat.pow_le_pow_right (by omega) h8) (by decide)
  induction s with
  | zero =>
    intro c f f' best lk ls A hcs hf1 hf2 hl hbst fA
    obtain ⟨f, rfl⟩ : ∃ q, f = q + 1 := ⟨f - 1, by omega⟩
    obtain ⟨f', rfl⟩ : ∃ q, f' = q + 1 := ⟨f' - 1, by omega⟩
    refine ⟨best, A, ?_, fA, fun B fB => ⟨B, ?_, fB⟩⟩
    · rw [f_X11_cheapest_L28, v_keepR fA 29 (by decide), hc.2.1, shl_c nc (by omega), if_pos (nI_le (by omega) (by omega))]
    · rw [f_X12_cheapest_L28, v_keepR fB 79 (by decide), hc.2.2.1, shl_c nc (by omega), if_pos (nI_le (by omega) (by omega))]
  | succ s ih =>
    intro c f f' best lk ls A hcs hf1 hf2 hl hbst fA
    obtain ⟨f, rfl⟩ : ∃ q, f = q + 1 := ⟨f - 1, by omega⟩
    obtain ⟨f', rfl⟩ : ∃ q, f' = q + 1 := ⟨f' - 1, by omega⟩
    have c256 : c < 256 := by omega
    have cl : f_X11_cheapest_L28 N (f + 1) (nI m) (nI a) (nI b) (nI most) x5 x6 best lk (nI c) A = if (decide (best = -2) || bet (M.1 34) nc (nI c) best) then f_X11_cheapest_L63 N (f_X11_cheapest_L28 N f) (nI m) (nI a) (nI b) (nI most) x5 x6 best lk (nI c) A else f_X11_cheapest_L28 N f (nI m) (nI a) (nI b) (nI most) x5 x6 best lk (nI (c + 1)) A := by
      rw [f_X11_cheapest_L28, v_keepR fA 29 (by decide), hc.2.1, shl_c nc (by omega), if_neg (nI_ge (show c < 2 ^ nc by omega) (by omega))]
      by_cases z : best = -2
      · rw [if_pos z, decide_eq_true z]; rfl
      · rw [if_neg z, decide_eq_false z, Bool.false_or]
        rcases hbst with q | ⟨b', h1, h2, h3⟩
        · exact absurd q z
        · rw [h2, e_cheaper (by omega) h8 h1 c256 (co := M.1 34) (by rw [v_keepR fA 29 (by decide)]; exact hc.2.1) (fun i _ => by rw [v_keepR fA 34 (by decide)]), Option.bind_some, v01_0, f_X11_cheapest_L125, nI_1]
    have rl : ∀ B, v_fr chV [] M B → f_X12_cheapest_L28 N (f' + 1) (nI m) (nI a) (nI b) (nI most) x5 x6 best ls (nI c) B = f_X12_cheapest_L126 N (f_X12_cheapest_L28 N f') (nI m) (nI a) (nI b) (nI most) x5 x6 best ls (nI c) (cso (nI c) (M.1 34) nc 0 0) (v01 (decide (best = -2) || bet (M.1 34) nc (nI c) best)) B := fun B fB => by
      rw [f_X12_cheapest_L28, v_keepR fB 79 (by decide), hc.2.2.1, shl_c nc (by omega), if_neg (nI_ge (show c < 2 ^ nc by omega) (by omega))]
      exact e_cost2 (by omega) h8 (co := M.1 34) (by rw [v_keepR fB 79 (by decide)]; exact hc.2.2.1) (fun i hi => by rw [v_keepR fB 105 (by decide)]; exact (hc.2.2.2 i hi).1.2.2.2.2) _ _ _ _ _ _ _ _ _ c256 hbst nc 0 N 0 (by omega) (by omega) rfl
    cases hbt : (decide (best = -2) || bet (M.1 34) nc (nI c) best) with
    | false =>
      rw [hbt] at cl rl
      obtain ⟨r, A', p1, p2, p3⟩ := ih (c + 1) f f' best lk ls A (by omega) (by omega) (by omega) hl (by
        rcases hbst with q | ⟨b', h1, h2, h3⟩
        · exact Or.inl q
        · exact Or.inr ⟨b', by omega, h2, h3⟩) fA
      refine ⟨r, A', by rw [cl]; exact p1, p2, fun B fB => ?_⟩
      obtain ⟨B', q1, q2⟩ := p3 B fB
      refine ⟨B', ?_, q2⟩
      rw [rl B fB]
      unfold f_X12_cheapest_L126
      rw [v01_0, if_neg (by decide), f_X12_cheapest_L161, nI_1]
      exact q1
    | true =>
      rw [hbt] at cl rl
      obtain ⟨A1, u1, u2, u3, u4⟩ := J_loadA (N := N) hd hf hm fA (by decide)
      have fA1 : v_fr chW [] M A1 := v_frt (by decide) (by decide) fA u2
      have kA1 : ChC A1 (fun i => tN (M.1 30 i)) (fun i => tN (M.1 31 i)) (M.1 32) (M.1 33) nc := k2.keep fA1 (by decide) (by decide)
      obtain ⟨A2, v1, v2, v3, v4⟩ := e_apply (show 100 ≤ N by omega) (nI c) hD hB k1 u3 u4 kA1
      have hB' := cg_B (nI c) hB k1
      obtain ⟨r1, A3, w1, w2, w3⟩ := e_up hN x5 x6 hD hK hB' ha hb hmo hl (A := A2) ⟨v3, wO M m, fun i _ _ => rfl, v4⟩
      have fA3 : v_fr chW [] M A3 := v_frt (by decide) (by decide) (v_frt (by decide) (by decide) fA1 v2) w2
      have ref : ∀ B, v_fr chV [] M B → ∃ (r2 : Int32) (B' : v_M), f_X12_unlikes N (nI m) (nI a) (nI b) (nI most) x5 x6 (nI c) 0 B = some (r2, B') ∧ v_fr chV [] M B' ∧ ((r1 = -1) ↔ (r2 = -1)) := fun B fB => by
        obtain ⟨B1, t1, t2, t3, t4, t5⟩ := J_take (show 100 ≤ N by omega) hd hf hm fB (by decide)
        have fB1 : v_fr chV [] M B1 := v_frt (by decide) (by decide) fB t2
        obtain ⟨B2, y1, y2, y3, y4⟩ := e_alter (show 100 ≤ N by omega) (nI c) hD hB k1 t3 t4 (k3.keep fB1 (by decide) (by decide))
        obtain ⟨r2, B3, z1, z2, z3⟩ := e_uk2 hN x5 x6 hD hK hB' ha hb hmo (most + 1) 0 N B2 (by omega) (by omega) ⟨y3, wO M m, fun i _ _ => rfl, y4⟩
        refine ⟨r2, B3, ?_, v_frt (by decide) (by decide) (v_frt (by decide) (by decide) fB1 y2) z2, alt_same hmo w3 z3⟩
        unfold f_X12_unlikes
        rw [t1, Option.bind_some, y1, Option.bind_some]
        exact z1
      by_cases n1 : r1 = -1
      · obtain ⟨r, A', p1, p2, p3⟩ := ih (c + 1) f f' (nI c) lk (cso (nI c) (M.1 34) nc 0 0) A3 (by omega) (by omega) (by omega) hl (Or.inr ⟨c, by omega, rfl, rfl⟩) fA3
        refine ⟨r, A', ?_, p2, fun B fB => ?_⟩
        · rw [cl, if_pos rfl, f_X11_cheapest_L63, u1, Option.bind_some, v1, Option.bind_some, w1, Option.bind_some, v_letE, if_pos n1, f_X11_cheapest_L125, nI_1]
          exact p1
        · obtain ⟨r2, B1, z1, z2, z3⟩ := ref B fB
          obtain ⟨B', q1, q2⟩ := p3 B1 z2
          refine ⟨B', ?_, q2⟩
          rw [rl B fB]
          unfold f_X12_cheapest_L126
          rw [v01_0, if_pos rfl, z1, Option.bind_some, if_pos (z3.mp n1), f_X12_cheapest_L161, nI_1]
          exact q1
      · have hl' : r1 = -1 ∨ ∃ x y : Nat, x ≤ most ∧ y ≤ most ∧ r1 = nI (16 * x + y) := by
          rcases w3 with ⟨q, _⟩ | ⟨x, y, hx, hy, e, _⟩
          · exact Or.inl q
          · exact Or.inr ⟨x, y, hx, hy, e⟩
        obtain ⟨r, A', p1, p2, p3⟩ := ih (c + 1) f f' best r1 ls A3 (by omega) (by omega) (by omega) hl' (by
          rcases hbst with q | ⟨b', h1, h2, h3⟩
          · exact Or.inl q
          · exact Or.inr ⟨b', by omega, h2, h3⟩) fA3
        refine ⟨r, A', ?_, p2, fun B fB => ?_⟩
        · rw [cl, if_pos rfl, f_X11_cheapest_L63, u1, Option.bind_some, v1, Option.bind_some, w1, Option.bind_some, v_letE, if_neg n1, f_X11_cheapest_L125, nI_1]
          exact p1
        · obtain ⟨r2, B1, z1, z2, z3⟩ := ref B fB
          obtain ⟨B', q1, q2⟩ := p3 B1 z2
          refine ⟨B', ?_, q2⟩
          rw [rl B fB]
          unfold f_X12_cheapest_L126
          rw [v01_0, if_pos rfl, z1, Option.bind_some, if_neg (fun z => n1 (z3.mpr z)), f_X12_cheapest_L161, nI_1]
          exact q1
theorem st_cheapest {N : Nat} (hN : 2000 ≤ N) (x1 x2 x3 x4 x5 x6 : Int32) {M : v_M} {np nm nc : Nat} (hd : J_drawc M np) (hf : J_fleetc M np nm) (hc : J_chgc M np nc) : ∃ (r : Int32) (M1 M2 : v_M), f_X11_cheapest N x1 x2 x3 x4 x5 x6 M = some (r, M1) ∧ f_X12_cheapest N x1 x2 x3 x4 x5 x6 M1 = some (r, M2) ∧ v_fr chV [] M M2 := by
  have e1 := hd.2.1
  have e2 := hd.2.2.1
  have f1 := hf.1
  have f2 := hf.2.1
  have h20 : nm ≤ 20 := hf.2.2.1.1
  have h24 := hd.1
  have h8 := hc.1
  have p256 : 2 ^ nc ≤ 256 := Nat.le_trans (Nat.pow_le_pow_right (by omega) h8) (by decide)
  obtain ⟨c1, c2⟩ := e_can1 N x1 x2 x3 x4 x5 x6 e1 f1
  unfold f_X11_cheapest f_X12_cheapest
  by_cases ok : okT np nm x1 x2 x3 x4 x5 x6
  rotate_left
  · rw [c2 ok, Option.bind_some]
    refine ⟨-1, M, M, rfl, ?_, v_frR⟩
    rw [(e_can2 N x1 x2 x3 x4 x5 x6 e2 f2).2 ok, Option.bind_some]
    rfl
  rw [c1 ok, Option.bind_some, if_neg (show ¬ (1 : Int32) = 0 by decide)]
  obtain ⟨⟨a1, a2⟩, a3, a4, a5, a6, a7⟩ := id ok
  obtain ⟨m, hm, rfl⟩ := i_idx (by omega) a1
  obtain ⟨a, ha, rfl⟩ := i_idx (by omega) a2
  obtain ⟨b, hb, rfl⟩ := i_idx (by omega) a3
  obtain ⟨most, hmo, rfl⟩ := i_idx (c := 16) (by omega) (show 0 ≤ x4 ∧ x4 ≤ nI 16 - 1 from a5)
  obtain ⟨r, A, p1, p2, p3⟩ := e_chp hN x5 x6 hd hf hc hm ha hb (show most ≤ 15 by omega) (2 ^ nc) 0 N N (-2) (-1) 0 M (by omega) (by omega) (by omega) (Or.inl rfl) (Or.inl rfl) v_frR
  have fA : v_fr chV [] M A := v_frt (by decide) (by decide) v_frR p2
  obtain ⟨B, q1, q2⟩ := p3 A fA
  refine ⟨r, A, B, p1, ?_, q2⟩
  rw [(e_can2 N (nI m) (nI a) (nI b) (nI most) x5 x6 (np := np) (nm := nm) (by rw [v_keepR fA 79 (by decide)]; exact e2) (by rw [v_keepR fA 79 (by decide)]; exact f2)).1 ok, Option.bind_some, if_neg (show ¬ (1 : Int32) = 0 by decide)]
  exact q1
