/-! the layout stays when cells are added and when a reference that isn't part of it is set -/
theorem v_lp_lt {k j q : Nat} (h : v_lp k j = some q) : k < 150 := by
  unfold v_lp at h
  split at h <;> first | omega | (cases h; done)
theorem v_Lay_new {z : v_Z} {t m k : Nat} (hL : v_Lay z.1 z.2.1) (hk : 150 ≤ k) : v_Lay (z_new t m k z).1 (z_new t m k z).2.1 :=
  ⟨fun i q hi => v_ap (hL.1 i q hi), fun i j q hi => v_ppn (by have := v_lp_lt hi; omega) (hL.2 i j q hi)⟩
theorem v_Lay_put {z : v_Z} {k j q : Nat} (hL : v_Lay z.1 z.2.1) (hk : v_lp k j = none) : v_Lay (z_put k j q z).1 (z_put k j q z).2.1 := by
  refine ⟨fun i r hi => hL.1 i r hi, fun i l r hi => ?_⟩
  show v_wp z.2.1 k j (some q) i l = some r
  by_cases h : i = k ∧ l = j
  · obtain ⟨rfl, rfl⟩ := h
    rw [hk] at hi; cases hi
  · have : v_wp z.2.1 k j (some q) i l = z.2.1 i l := by
      unfold v_wp
      by_cases h1 : i = k
      · subst h1
        by_cases h2 : l = j
        · exact absurd ⟨rfl, h2⟩ h
        · simp [h2]
      · simp [h1]
    rw [this]; exact hL.2 i l r hi
theorem v_Lay_int {z : v_Z} {k j : Nat} {v : Int32} (hL : v_Lay z.1 z.2.1) : v_Lay (z_int k j v z).1 (z_int k j v z).2.1 := hL
theorem v_lp_hi {k j : Nat} (h : 150 ≤ k) : v_lp k j = none := by
  cases e : v_lp k j with
  | none => rfl
  | some q => have := v_lp_lt e; omega
theorem v_Lay_X4 {q n : Nat} {z : v_Z} (hL : v_Lay z.1 z.2.1) (hq : 150 ≤ q) (hn : 150 ≤ n) : v_Lay (g_X4 q n z).1 (g_X4 q n z).2.1 := by
  unfold g_X4
  repeat (first | exact hL | refine v_Lay_put ?_ (v_lp_hi hq) | refine v_Lay_new ?_ (by omega) | refine v_Lay_int ?_)
theorem v_Lay_X5 {q n : Nat} {z : v_Z} (hL : v_Lay z.1 z.2.1) (hq : 150 ≤ q) (hn : 150 ≤ n) : v_Lay (g_X5 q n z).1 (g_X5 q n z).2.1 := by
  unfold g_X5
  repeat (first | exact hL | refine v_Lay_put ?_ (v_lp_hi hq) | refine v_Lay_new ?_ (by omega) | refine v_Lay_int ?_)
theorem v_Lay_len {sh : v_S} {P : v_P} (hL : v_Lay sh P) : 150 ≤ sh.length := by
  have h := hL.1 149 _ ls_149
  have := (List.getElem?_eq_some_iff.mp h).1
  omega
/-- Reader.handOver: the order that was read; a new one in its place -/
def h_over (sh : v_S) (P : v_P) (M : v_M) : v_Z := z_put 35 1 sh.length (g_X5 sh.length (sh.length + 1) (z_new 0 5 sh.length (sh, P, M)))
set_option maxHeartbeats 4000000 in
set_option maxRecDepth 100000 in
theorem c_X7_handOver (E : v_E) {sh : v_S} {P : v_P} (hL : v_Lay sh P) (M : v_M) (qo : Nat) (hro : P 35 1 = some qo) : v_Ct E 2 yX7_handOver cX7_handOver 2 (some (.object "NearlyShut$Order")) 7 470 [v_rf E 35] sh P M (fun v s p m => v = some (v_rf E qo) ∧ s = (h_over sh P M).1 ∧ p = (h_over sh P M).2.1 ∧ m = (h_over sh P M).2.2) := by
  refine v_Ct.of (by decide +kernel) (Nat.le_of_ble_eq_true rfl) (fun X hO => ?_)
  have hK : v_K E X cX7_handOver RX7 2 2 := hO.1
  show V E X (7, 470) 0 [(0, v_rf E 35)] [] sh P M
  refine V.aload_n (pc := 0) (i := 0) hK rfl ⟨_, rfl⟩ dX7_handOver_0 ?_
  refine V.getR (pc := 1) hK fl_RX7_21 rfl (hL.1 35 _ ls_35) hro dX7_handOver_1 ?_
  refine V.astore_n (pc := 4) (i := 1) (lv' := [(0, _), (1, _)]) hK ⟨_, rfl⟩ (by decide) rfl dX7_handOver_4 ?_
  refine V.aload_n (pc := 5) (i := 0) hK rfl ⟨_, rfl⟩ dX7_handOver_5 ?_
  refine V.new (pc := 6) (ci := 5) (n := 10) (b1 := 6) (b2 := 460) hK (by decide) rfl tw_231 tw_232 tw_8 dX7_handOver_6 ?_
  refine V.nmZ (z_new 0 5 sh.length (sh, P, M)) rfl rfl rfl (fun s1 e1 => ?_)
  have hs : s1.1[sh.length]? = some (0, 5) := by rw [e1]; exact v_apn rfl
  have hn : s1.1.length = sh.length + 1 := by rw [e1]; exact v_al (n := sh.length) (c := 0) rfl
  refine V.dup (pc := 9) hK rfl dX7_handOver_9 ?_
  refine V.cIN (pc := 10) hK (c_X5_init E sh.length (sh.length + 1) s1 hs hn) Y_X5_init cin_RX7_20 dX7_handOver_10 (by decide) rfl (Nat.le_of_ble_eq_true rfl) (by decide) ?_
  have h35 : (g_X5 sh.length (sh.length + 1) s1).1[35]? = some (0, 7) := k_X5 (by rw [e1]; exact v_ap (hL.1 35 _ ls_35))
  refine V.putR (pc := 13) hK fl_RX7_21 rfl rfl h35 dX7_handOver_13 ?_
  refine V.aload_n (pc := 16) (i := 1) hK rfl ⟨_, rfl⟩ dX7_handOver_16 ?_
  exact V.aret (pc := 17) hO (Or.inl ⟨_, rfl⟩) (Or.inr ⟨_, rfl⟩) dX7_handOver_17 ⟨rfl, by rw [e1]; rfl, by rw [e1]; rfl, by rw [e1]; rfl⟩
