/-! every call, but order -/
def OrdOK : Prop := ∀ (sh : v_S) (P : v_P) (M : v_M) (qo : Nat) (x1 x2 : Int32), v_Lay sh P → v_PO sh P → v_Or sh P qo → P 35 1 = some qo → II sh P M → ∃ (r : Int32) (sh2 : v_S) (P2 : v_P) (M1 M2 : v_M), f_X11_order v_Nf qo sh P x1 x2 M = some (r, (sh2, P2, M1)) ∧ f_X12_order v_Nf x1 x2 M1 = some (r, M2) ∧ II sh2 P2 M2
theorem nb01 (x : Int32) : v_nb x = 0 ∨ v_nb x = 1 := by unfold v_nb; split <;> simp
theorem nf_le {n : Nat} (h : n ≤ 100000) : n ≤ v_Nf := h
theorem good_of (hOrd : OrdOK) : v_Good v_Nf II := by
  intro sh P M hI
  obtain ⟨hL, hPO, qo, hor, hro, hq, np, nm, nc, nt, n, ns, nr, no, ht, hd, hf, hc, hta, hs, he, hp, hm, ho⟩ := id hI
  have h20 : nm ≤ 20 := hf.2.2.1.1
  refine ⟨hL, hPO, qo, hor, hro, fun k hk a => ?_⟩
  match k, hk with
  | 0, _ =>
    obtain ⟨r, M1, M2, g1, g2, g3, fr⟩ := st_clock v_Nf (a 1) ht
    exact ⟨sh, P, M2, ⟨rfl, rfl, r, M1, g1, g2⟩, ⟨hL, hPO, qo, hor, hro, hq, np, nm, nc, nt, n, ns, nr, no, g3, J_drawc.keep fr (by decide) (by decide) (by decide) hd, J_fleetc.keep fr (by decide) (by decide) (by decide) hf, J_chgc.keep fr (by decide) (by decide) (by decide) hc, J_tapec.keep fr (by decide) (by decide) (by decide) hta, J_stac.keep fr (by decide) (by decide) (by decide) hs, J_seenc.keep fr (by decide) (by decide) (by decide) he, J_papc.keep fr (by decide) (by decide) (by decide) hp, J_mrk.keep fr (by decide) (by decide) hm, J_ordc.keep fr (by decide) (by decide) (by decide) (by decide) ho⟩⟩
  | 1, _ =>
    obtain ⟨r, M1, M2, g1, g2, ⟨np', hle, g3⟩, fr⟩ := st_part v_Nf (a 1) (a 2) (a 3) (a 4) (a 5) (a 6) (a 7) hd
    exact ⟨sh, P, M2, ⟨rfl, rfl, r, M1, g1, g2⟩, ⟨hL, hPO, qo, hor, hro, hq, np', nm, nc, nt, n, ns, nr, no, J_time.keep fr (by decide) (by decide) ht, g3, J_fleetc.keep fr (by decide) (by decide) (by decide) (hf.more hle), J_chgc.keep fr (by decide) (by decide) (by decide) (hc.more hle), J_tapec.keep fr (by decide) (by decide) (by decide) hta, J_stac.keep fr (by decide) (by decide) (by decide) hs, J_seenc.keep fr (by decide) (by decide) (by decide) he, J_papc.keep fr (by decide) (by decide) (by decide) hp, J_mrk.keep fr (by decide) (by decide) (hm.more hle), J_ordc.keep fr (by decide) (by decide) (by decide) (by decide) ho⟩⟩
  | 2, _ =>
    obtain ⟨r, M1, M2, g1, g2, ⟨nm', hle, g3⟩, fr⟩ := st_machine (nf_le (by decide)) hf
    exact ⟨sh, P, M2, ⟨rfl, rfl, r, M1, g1, g2⟩, ⟨hL, hPO, qo, hor, hro, hq, np, nm', nc, nt, n, ns, nr, no, J_time.keep fr (by decide) (by decide) ht, J_drawc.keep fr (by decide) (by decide) (by decide) hd, g3, J_chgc.keep fr (by decide) (by decide) (by decide) hc, J_tapec.keep fr (by decide) (by decide) (by decide) hta, J_stac.keep fr (by decide) (by decide) (by decide) (hs.more hle), J_seenc.keep fr (by decide) (by decide) (by decide) (he.more hle), J_papc.keep fr (by decide) (by decide) (by decide) (hp.more hle), J_mrk.keep fr (by decide) (by decide) hm, J_ordc.keep fr (by decide) (by decide) (by decide) (by decide) ho⟩⟩
  | 3, _ =>
    obtain ⟨r, M1, M2, g1, g2, g3, fr⟩ := st_turn v_Nf (a 1) (a 2) (a 3) (a 4) hd hf
    exact ⟨sh, P, M2, ⟨rfl, rfl, r, M1, g1, g2⟩, ⟨hL, hPO, qo, hor, hro, hq, np, nm, nc, nt, n, ns, nr, no, J_time.keep fr (by decide) (by decide) ht, J_drawc.keep fr (by decide) (by decide) (by decide) hd, g3, J_chgc.keep fr (by decide) (by decide) (by decide) hc, J_tapec.keep fr (by decide) (by decide) (by decide) hta, J_stac.keep fr (by decide) (by decide) (by decide) hs, J_seenc.keep fr (by decide) (by decide) (by decide) he, J_papc.keep fr (by decide) (by decide) (by decide) hp, J_mrk.keep fr (by decide) (by decide) hm, J_ordc.keep fr (by decide) (by decide) (by decide) (by decide) ho⟩⟩
  | 4, _ =>
    obtain ⟨r, M1, M2, g1, g2, g3, fr⟩ := st_anew v_Nf (a 1) (a 2) hd hf
    exact ⟨sh, P, M2, ⟨rfl, rfl, r, M1, g1, g2⟩, ⟨hL, hPO, qo, hor, hro, hq, np, nm, nc, nt, n, ns, nr, no, J_time.keep fr (by decide) (by decide) ht, J_drawc.keep fr (by decide) (by decide) (by decide) hd, g3, J_chgc.keep fr (by decide) (by decide) (by decide) hc, J_tapec.keep fr (by decide) (by decide) (by decide) hta, J_stac.keep fr (by decide) (by decide) (by decide) hs, J_seenc.keep fr (by decide) (by decide) (by decide) he, J_papc.keep fr (by decide) (by decide) (by decide) hp, J_mrk.keep fr (by decide) (by decide) hm, J_ordc.keep fr (by decide) (by decide) (by decide) (by decide) ho⟩⟩
  | 5, _ =>
    obtain ⟨r, M1, M2, g1, g2, g3, fr⟩ := st_push (nf_le (by decide)) (a 1) (a 2) (a 3) hd hf
    exact ⟨sh, P, M2, ⟨rfl, rfl, r, M1, g1, g2⟩, ⟨hL, hPO, qo, hor, hro, hq, np, nm, nc, nt, n, ns, nr, no, J_time.keep fr (by decide) (by decide) ht, J_drawc.keep fr (by decide) (by decide) (by decide) hd, g3, J_chgc.keep fr (by decide) (by decide) (by decide) hc, J_tapec.keep fr (by decide) (by decide) (by decide) hta, J_stac.keep fr (by decide) (by decide) (by decide) hs, J_seenc.keep fr (by decide) (by decide) (by decide) he, J_papc.keep fr (by decide) (by decide) (by decide) hp, J_mrk.keep fr (by decide) (by decide) hm, J_ordc.keep fr (by decide) (by decide) (by decide) (by decide) ho⟩⟩
  | 6, _ =>
    obtain ⟨r, M1, M2, g1, g2, g3, fr⟩ := st_release (nf_le (by decide)) (a 1) hf
    exact ⟨sh, P, M2, ⟨rfl, rfl, r, M1, g1, g2⟩, ⟨hL, hPO, qo, hor, hro, hq, np, nm, nc, nt, n, ns, nr, no, J_time.keep fr (by decide) (by decide) ht, J_drawc.keep fr (by decide) (by decide) (by decide) hd, g3, J_chgc.keep fr (by decide) (by decide) (by decide) hc, J_tapec.keep fr (by decide) (by decide) (by decide) hta, J_stac.keep fr (by decide) (by decide) (by decide) hs, J_seenc.keep fr (by decide) (by decide) (by decide) he, J_papc.keep fr (by decide) (by decide) (by decide) hp, J_mrk.keep fr (by decide) (by decide) hm, J_ordc.keep fr (by decide) (by decide) (by decide) (by decide) ho⟩⟩
  | 7, _ =>
    obtain ⟨r, M1, M2, g1, g2, fr⟩ := st_state (nf_le (by decide)) (a 1) (a 2) (a 3) hd hf
    exact ⟨sh, P, M2, ⟨rfl, rfl, r, M1, g1, g2⟩, ⟨hL, hPO, qo, hor, hro, hq, np, nm, nc, nt, n, ns, nr, no, J_time.keep fr (by decide) (by decide) ht, J_drawc.keep fr (by decide) (by decide) (by decide) hd, J_fleetc.keep fr (by decide) (by decide) (by decide) hf, J_chgc.keep fr (by decide) (by decide) (by decide) hc, J_tapec.keep fr (by decide) (by decide) (by decide) hta, J_stac.keep fr (by decide) (by decide) (by decide) hs, J_seenc.keep fr (by decide) (by decide) (by decide) he, J_papc.keep fr (by decide) (by decide) (by decide) hp, J_mrk.keep fr (by decide) (by decide) hm, J_ordc.keep fr (by decide) (by decide) (by decide) (by decide) ho⟩⟩
  | 8, _ =>
    obtain ⟨r, M1, M2, g1, g2, fr⟩ := st_judged (nf_le (by decide)) (a 1) (a 2) (a 3) hd hf
    exact ⟨sh, P, M2, ⟨rfl, rfl, r, M1, g1, g2⟩, ⟨hL, hPO, qo, hor, hro, hq, np, nm, nc, nt, n, ns, nr, no, J_time.keep fr (by decide) (by decide) ht, J_drawc.keep fr (by decide) (by decide) (by decide) hd, J_fleetc.keep fr (by decide) (by decide) (by decide) hf, J_chgc.keep fr (by decide) (by decide) (by decide) hc, J_tapec.keep fr (by decide) (by decide) (by decide) hta, J_stac.keep fr (by decide) (by decide) (by decide) hs, J_seenc.keep fr (by decide) (by decide) (by decide) he, J_papc.keep fr (by decide) (by decide) (by decide) hp, J_mrk.keep fr (by decide) (by decide) hm, J_ordc.keep fr (by decide) (by decide) (by decide) (by decide) ho⟩⟩
  | 9, _ =>
    obtain ⟨r, M1, M2, g1, g2, fr⟩ := st_tried (nf_le (by decide)) (a 1) (a 2) (a 3) (a 4) (a 5) (a 6) (a 7) hd hf hc
    exact ⟨sh, P, M2, ⟨rfl, rfl, r, M1, g1, g2⟩, ⟨hL, hPO, qo, hor, hro, hq, np, nm, nc, nt, n, ns, nr, no, J_time.keep fr (by decide) (by decide) ht, J_drawc.keep fr (by decide) (by decide) (by decide) hd, J_fleetc.keep fr (by decide) (by decide) (by decide) hf, J_chgc.keep fr (by decide) (by decide) (by decide) hc, J_tapec.keep fr (by decide) (by decide) (by decide) hta, J_stac.keep fr (by decide) (by decide) (by decide) hs, J_seenc.keep fr (by decide) (by decide) (by decide) he, J_papc.keep fr (by decide) (by decide) (by decide) hp, J_mrk.keep fr (by decide) (by decide) hm, J_ordc.keep fr (by decide) (by decide) (by decide) (by decide) ho⟩⟩
  | 10, _ =>
    obtain ⟨r, M1, M2, g1, g2, ⟨nc', g3⟩, fr⟩ := st_change v_Nf (a 1) (a 2) (a 3) (a 4) (a 5) hd hc
    exact ⟨sh, P, M2, ⟨rfl, rfl, r, M1, g1, g2⟩, ⟨hL, hPO, qo, hor, hro, hq, np, nm, nc', nt, n, ns, nr, no, J_time.keep fr (by decide) (by decide) ht, J_drawc.keep fr (by decide) (by decide) (by decide) hd, J_fleetc.keep fr (by decide) (by decide) (by decide) hf, g3, J_tapec.keep fr (by decide) (by decide) (by decide) hta, J_stac.keep fr (by decide) (by decide) (by decide) hs, J_seenc.keep fr (by decide) (by decide) (by decide) he, J_papc.keep fr (by decide) (by decide) (by decide) hp, J_mrk.keep fr (by decide) (by decide) hm, J_ordc.keep fr (by decide) (by decide) (by decide) (by decide) ho⟩⟩
  | 11, _ =>
    obtain ⟨r, M1, M2, g1, g2, fr⟩ := st_cheapest (nf_le (by decide)) (a 1) (a 2) (a 3) (a 4) (a 5) (a 6) hd hf hc
    exact ⟨sh, P, M2, ⟨rfl, rfl, r, M1, g1, g2⟩, ⟨hL, hPO, qo, hor, hro, hq, np, nm, nc, nt, n, ns, nr, no, J_time.keep fr (by decide) (by decide) ht, J_drawc.keep fr (by decide) (by decide) (by decide) hd, J_fleetc.keep fr (by decide) (by decide) (by decide) hf, J_chgc.keep fr (by decide) (by decide) (by decide) hc, J_tapec.keep fr (by decide) (by decide) (by decide) hta, J_stac.keep fr (by decide) (by decide) (by decide) hs, J_seenc.keep fr (by decide) (by decide) (by decide) he, J_papc.keep fr (by decide) (by decide) (by decide) hp, J_mrk.keep fr (by decide) (by decide) hm, J_ordc.keep fr (by decide) (by decide) (by decide) (by decide) ho⟩⟩
  | 12, _ =>
    obtain ⟨r, M1, M2, g1, g2, fr⟩ := st_goes (nf_le (by decide)) (a 1) (a 2) (a 3) hd hf
    exact ⟨sh, P, M2, ⟨rfl, rfl, r, M1, g1, g2⟩, ⟨hL, hPO, qo, hor, hro, hq, np, nm, nc, nt, n, ns, nr, no, J_time.keep fr (by decide) (by decide) ht, J_drawc.keep fr (by decide) (by decide) (by decide) hd, J_fleetc.keep fr (by decide) (by decide) (by decide) hf, J_chgc.keep fr (by decide) (by decide) (by decide) hc, J_tapec.keep fr (by decide) (by decide) (by decide) hta, J_stac.keep fr (by decide) (by decide) (by decide) hs, J_seenc.keep fr (by decide) (by decide) (by decide) he, J_papc.keep fr (by decide) (by decide) (by decide) hp, J_mrk.keep fr (by decide) (by decide) hm, J_ordc.keep fr (by decide) (by decide) (by decide) (by decide) ho⟩⟩
  | 13, _ =>
    obtain ⟨r, g1, g2⟩ := st_floor v_Nf (a 1) (a 2) (a 3) (a 4) (a 5) (a 6) (a 7) M
    exact ⟨sh, P, M, ⟨rfl, rfl, r, M, g1, g2⟩, hI⟩
  | 14, _ =>
    obtain ⟨r, M1, M2, g1, g2, ⟨nt', g3⟩, fr⟩ := st_feed (nf_le (by decide)) (a 1) (a 2) (a 3) (a 4) (a 5) hta
    exact ⟨sh, P, M2, ⟨rfl, rfl, r, M1, g1, g2⟩, ⟨hL, hPO, qo, hor, hro, hq, np, nm, nc, nt', n, ns, nr, no, J_time.keep fr (by decide) (by decide) ht, J_drawc.keep fr (by decide) (by decide) (by decide) hd, J_fleetc.keep fr (by decide) (by decide) (by decide) hf, J_chgc.keep fr (by decide) (by decide) (by decide) hc, g3, J_stac.keep fr (by decide) (by decide) (by decide) hs, J_seenc.keep fr (by decide) (by decide) (by decide) he, J_papc.keep fr (by decide) (by decide) (by decide) hp, J_mrk.keep fr (by decide) (by decide) hm, J_ordc.keep fr (by decide) (by decide) (by decide) (by decide) ho⟩⟩
  | 15, _ =>
    obtain ⟨r, M1, M2, g1, g2, ⟨nt', g3⟩, fr⟩ := st_end v_Nf (a 1) hta
    exact ⟨sh, P, M2, ⟨rfl, rfl, r, M1, g1, g2⟩, ⟨hL, hPO, qo, hor, hro, hq, np, nm, nc, nt', n, ns, nr, no, J_time.keep fr (by decide) (by decide) ht, J_drawc.keep fr (by decide) (by decide) (by decide) hd, J_fleetc.keep fr (by decide) (by decide) (by decide) hf, J_chgc.keep fr (by decide) (by decide) (by decide) hc, g3, J_stac.keep fr (by decide) (by decide) (by decide) hs, J_seenc.keep fr (by decide) (by decide) (by decide) he, J_papc.keep fr (by decide) (by decide) (by decide) hp, J_mrk.keep fr (by decide) (by decide) hm, J_ordc.keep fr (by decide) (by decide) (by decide) (by decide) ho⟩⟩
  | 16, _ =>
    obtain ⟨r, sh2, P2, M1, M2, g1, g2, g3⟩ := hOrd sh P M qo (a 1) (a 2) hL hPO hor hro hI
    exact ⟨sh2, P2, M2, ⟨r, M1, g1, g2⟩, g3⟩
  | 17, _ =>
    obtain ⟨r, M1, M2, g1, g2, g3, fr⟩ := st_takes v_Nf (P := P) (a 1) (a 2) (v_nb (a 3)) hf ho.1.1 ho.1.2.1 ho.1.2.2 (fun o hoo => by
      obtain ⟨q, L, p1, p2, p3, -⟩ := ho.2.1 o hoo
      exact ⟨q, p1, p3⟩)
    exact ⟨sh, P, M2, ⟨rfl, rfl, r, M1, g1, g2⟩, ⟨hL, hPO, qo, hor, hro, hq, np, nm, nc, nt, n, ns, nr, no, J_time.keep fr (by decide) (by decide) ht, J_drawc.keep fr (by decide) (by decide) (by decide) hd, g3, J_chgc.keep fr (by decide) (by decide) (by decide) hc, J_tapec.keep fr (by decide) (by decide) (by decide) hta, J_stac.keep fr (by decide) (by decide) (by decide) hs, J_seenc.keep fr (by decide) (by decide) (by decide) he, J_papc.keep fr (by decide) (by decide) (by decide) hp, J_mrk.keep fr (by decide) (by decide) hm, J_ordc.keep fr (by decide) (by decide) (by decide) (by decide) ho⟩⟩
  | 18, _ =>
    obtain ⟨r, M1, M2, g1, g2, fr⟩ := st_bound (nf_le (by decide)) (P := P) (a 1) (a 2) ht hd hf hs ho
    exact ⟨sh, P, M2, ⟨rfl, rfl, r, M1, g1, g2⟩, ⟨hL, hPO, qo, hor, hro, hq, np, nm, nc, nt, n, ns, nr, no, J_time.keep fr (by decide) (by decide) ht, J_drawc.keep fr (by decide) (by decide) (by decide) hd, J_fleetc.keep fr (by decide) (by decide) (by decide) hf, J_chgc.keep fr (by decide) (by decide) (by decide) hc, J_tapec.keep fr (by decide) (by decide) (by decide) hta, J_stac.keep fr (by decide) (by decide) (by decide) hs, J_seenc.keep fr (by decide) (by decide) (by decide) he, J_papc.keep fr (by decide) (by decide) (by decide) hp, J_mrk.keep fr (by decide) (by decide) hm, J_ordc.keep fr (by decide) (by decide) (by decide) (by decide) ho⟩⟩
  | 19, _ =>
    obtain ⟨r, M1, M2, g1, g2, ⟨n', g3⟩, fr⟩ := st_stamp (nf_le (by decide)) (a 1) (a 2) (a 3) (a 4) ht hf hs
    exact ⟨sh, P, M2, ⟨rfl, rfl, r, M1, g1, g2⟩, ⟨hL, hPO, qo, hor, hro, hq, np, nm, nc, nt, n', ns, nr, no, J_time.keep fr (by decide) (by decide) ht, J_drawc.keep fr (by decide) (by decide) (by decide) hd, J_fleetc.keep fr (by decide) (by decide) (by decide) hf, J_chgc.keep fr (by decide) (by decide) (by decide) hc, J_tapec.keep fr (by decide) (by decide) (by decide) hta, g3, J_seenc.keep fr (by decide) (by decide) (by decide) he, J_papc.keep fr (by decide) (by decide) (by decide) hp, J_mrk.keep fr (by decide) (by decide) hm, J_ordc.keep fr (by decide) (by decide) (by decide) (by decide) ho⟩⟩
  | 20, _ =>
    obtain ⟨r, M1, M2, g1, g2, ⟨ns', g3⟩, fr⟩ := st_see v_Nf (a 1) (a 2) (a 3) (v_nb (a 4)) (nb01 _) ht hf he
    exact ⟨sh, P, M2, ⟨rfl, rfl, r, M1, g1, g2⟩, ⟨hL, hPO, qo, hor, hro, hq, np, nm, nc, nt, n, ns', nr, no, J_time.keep fr (by decide) (by decide) ht, J_drawc.keep fr (by decide) (by decide) (by decide) hd, J_fleetc.keep fr (by decide) (by decide) (by decide) hf, J_chgc.keep fr (by decide) (by decide) (by decide) hc, J_tapec.keep fr (by decide) (by decide) (by decide) hta, J_stac.keep fr (by decide) (by decide) (by decide) hs, g3, J_papc.keep fr (by decide) (by decide) (by decide) hp, J_mrk.keep fr (by decide) (by decide) hm, J_ordc.keep fr (by decide) (by decide) (by decide) (by decide) ho⟩⟩
  | 21, _ =>
    obtain ⟨r, M1, M2, g1, g2, fr⟩ := st_fewest (nf_le (by decide)) h20 hs he
    exact ⟨sh, P, M2, ⟨rfl, rfl, r, M1, g1, g2⟩, ⟨hL, hPO, qo, hor, hro, hq, np, nm, nc, nt, n, ns, nr, no, J_time.keep fr (by decide) (by decide) ht, J_drawc.keep fr (by decide) (by decide) (by decide) hd, J_fleetc.keep fr (by decide) (by decide) (by decide) hf, J_chgc.keep fr (by decide) (by decide) (by decide) hc, J_tapec.keep fr (by decide) (by decide) (by decide) hta, J_stac.keep fr (by decide) (by decide) (by decide) hs, J_seenc.keep fr (by decide) (by decide) (by decide) he, J_papc.keep fr (by decide) (by decide) (by decide) hp, J_mrk.keep fr (by decide) (by decide) hm, J_ordc.keep fr (by decide) (by decide) (by decide) (by decide) ho⟩⟩
  | 22, _ =>
    obtain ⟨r, M1, M2, g1, g2, fr⟩ := st_sure (nf_le (by decide)) (a 1) h20 hs he
    exact ⟨sh, P, M2, ⟨rfl, rfl, r, M1, g1, g2⟩, ⟨hL, hPO, qo, hor, hro, hq, np, nm, nc, nt, n, ns, nr, no, J_time.keep fr (by decide) (by decide) ht, J_drawc.keep fr (by decide) (by decide) (by decide) hd, J_fleetc.keep fr (by decide) (by decide) (by decide) hf, J_chgc.keep fr (by decide) (by decide) (by decide) hc, J_tapec.keep fr (by decide) (by decide) (by decide) hta, J_stac.keep fr (by decide) (by decide) (by decide) hs, J_seenc.keep fr (by decide) (by decide) (by decide) he, J_papc.keep fr (by decide) (by decide) (by decide) hp, J_mrk.keep fr (by decide) (by decide) hm, J_ordc.keep fr (by decide) (by decide) (by decide) (by decide) ho⟩⟩
  | 23, _ =>
    obtain ⟨r, M1, M2, g1, g2, ⟨nr', g3⟩, fr⟩ := st_paper v_Nf (a 1) (a 2) (a 3) ht hf hp
    exact ⟨sh, P, M2, ⟨rfl, rfl, r, M1, g1, g2⟩, ⟨hL, hPO, qo, hor, hro, hq, np, nm, nc, nt, n, ns, nr', no, J_time.keep fr (by decide) (by decide) ht, J_drawc.keep fr (by decide) (by decide) (by decide) hd, J_fleetc.keep fr (by decide) (by decide) (by decide) hf, J_chgc.keep fr (by decide) (by decide) (by decide) hc, J_tapec.keep fr (by decide) (by decide) (by decide) hta, J_stac.keep fr (by decide) (by decide) (by decide) hs, J_seenc.keep fr (by decide) (by decide) (by decide) he, g3, J_mrk.keep fr (by decide) (by decide) hm, J_ordc.keep fr (by decide) (by decide) (by decide) (by decide) ho⟩⟩
  | 24, _ =>
    obtain ⟨r, M1, M2, g1, g2, g3, fr⟩ := st_read v_Nf (a 1) (a 2) (a 3) ht hp
    exact ⟨sh, P, M2, ⟨rfl, rfl, r, M1, g1, g2⟩, ⟨hL, hPO, qo, hor, hro, hq, np, nm, nc, nt, n, ns, nr, no, J_time.keep fr (by decide) (by decide) ht, J_drawc.keep fr (by decide) (by decide) (by decide) hd, J_fleetc.keep fr (by decide) (by decide) (by decide) hf, J_chgc.keep fr (by decide) (by decide) (by decide) hc, J_tapec.keep fr (by decide) (by decide) (by decide) hta, J_stac.keep fr (by decide) (by decide) (by decide) hs, J_seenc.keep fr (by decide) (by decide) (by decide) he, g3, J_mrk.keep fr (by decide) (by decide) hm, J_ordc.keep fr (by decide) (by decide) (by decide) (by decide) ho⟩⟩
  | 25, _ =>
    obtain ⟨r, M1, M2, g1, g2, fr⟩ := st_knew (nf_le (by decide)) (a 1) (a 2) ht hp
    exact ⟨sh, P, M2, ⟨rfl, rfl, r, M1, g1, g2⟩, ⟨hL, hPO, qo, hor, hro, hq, np, nm, nc, nt, n, ns, nr, no, J_time.keep fr (by decide) (by decide) ht, J_drawc.keep fr (by decide) (by decide) (by decide) hd, J_fleetc.keep fr (by decide) (by decide) (by decide) hf, J_chgc.keep fr (by decide) (by decide) (by decide) hc, J_tapec.keep fr (by decide) (by decide) (by decide) hta, J_stac.keep fr (by decide) (by decide) (by decide) hs, J_seenc.keep fr (by decide) (by decide) (by decide) he, J_papc.keep fr (by decide) (by decide) (by decide) hp, J_mrk.keep fr (by decide) (by decide) hm, J_ordc.keep fr (by decide) (by decide) (by decide) (by decide) ho⟩⟩
  | 26, _ =>
    obtain ⟨r, M1, M2, g1, g2, fr⟩ := st_warned (nf_le (by decide)) (a 1) (a 2) hf hp
    exact ⟨sh, P, M2, ⟨rfl, rfl, r, M1, g1, g2⟩, ⟨hL, hPO, qo, hor, hro, hq, np, nm, nc, nt, n, ns, nr, no, J_time.keep fr (by decide) (by decide) ht, J_drawc.keep fr (by decide) (by decide) (by decide) hd, J_fleetc.keep fr (by decide) (by decide) (by decide) hf, J_chgc.keep fr (by decide) (by decide) (by decide) hc, J_tapec.keep fr (by decide) (by decide) (by decide) hta, J_stac.keep fr (by decide) (by decide) (by decide) hs, J_seenc.keep fr (by decide) (by decide) (by decide) he, J_papc.keep fr (by decide) (by decide) (by decide) hp, J_mrk.keep fr (by decide) (by decide) hm, J_ordc.keep fr (by decide) (by decide) (by decide) (by decide) ho⟩⟩
  | 27, _ =>
    obtain ⟨r, M1, M2, g1, g2, g3, fr⟩ := st_wears v_Nf (a 1) (a 2) hd
    exact ⟨sh, P, M2, ⟨rfl, rfl, r, M1, g1, g2⟩, ⟨hL, hPO, qo, hor, hro, hq, np, nm, nc, nt, n, ns, nr, no, J_time.keep fr (by decide) (by decide) ht, g3, J_fleetc.keep fr (by decide) (by decide) (by decide) hf, J_chgc.keep fr (by decide) (by decide) (by decide) hc, J_tapec.keep fr (by decide) (by decide) (by decide) hta, J_stac.keep fr (by decide) (by decide) (by decide) hs, J_seenc.keep fr (by decide) (by decide) (by decide) he, J_papc.keep fr (by decide) (by decide) (by decide) hp, J_mrk.keep fr (by decide) (by decide) hm, J_ordc.keep fr (by decide) (by decide) (by decide) (by decide) ho⟩⟩
  | 28, _ =>
    obtain ⟨r, M1, M2, g1, g2, g3, fr⟩ := st_fly (nf_le (by decide)) (a 1) (a 2) hd hf
    exact ⟨sh, P, M2, ⟨rfl, rfl, r, M1, g1, g2⟩, ⟨hL, hPO, qo, hor, hro, hq, np, nm, nc, nt, n, ns, nr, no, J_time.keep fr (by decide) (by decide) ht, J_drawc.keep fr (by decide) (by decide) (by decide) hd, g3, J_chgc.keep fr (by decide) (by decide) (by decide) hc, J_tapec.keep fr (by decide) (by decide) (by decide) hta, J_stac.keep fr (by decide) (by decide) (by decide) hs, J_seenc.keep fr (by decide) (by decide) (by decide) he, J_papc.keep fr (by decide) (by decide) (by decide) hp, J_mrk.keep fr (by decide) (by decide) hm, J_ordc.keep fr (by decide) (by decide) (by decide) (by decide) ho⟩⟩
  | 29, _ =>
    obtain ⟨r, g1, g2⟩ := st_odds (nf_le (by decide)) (a 1) (a 2) M
    exact ⟨sh, P, M, ⟨rfl, rfl, r, M, g1, g2⟩, hI⟩
  | 30, _ =>
    obtain ⟨r, g1, g2⟩ := st_first (nf_le (by decide)) (a 1) (a 2) (a 3) M
    exact ⟨sh, P, M, ⟨rfl, rfl, r, M, g1, g2⟩, hI⟩
  | 31, _ =>
    obtain ⟨r, sh2, P2, M1, M2, g1, g2, g3, g4, g5, g6, g7, fr, g8⟩ := st_mark (nf_le (by decide)) hL hPO (a 1) ht hd hf hm
    have l2 := v_Lay_len hL
    refine ⟨sh2, P2, M2, ⟨r, M1, g1, g2⟩, g4, g5, qo, g7 qo hor, by rw [g6 35 1 (by omega) (by decide)]; exact hro, hq, np, nm, nc, nt, n, ns, nr, no, clip_t (J_time.keep fr (by decide) (by decide) ht), clip_d (J_drawc.keep fr (by decide) (by decide) (by decide) hd), clip_f (J_fleetc.keep fr (by decide) (by decide) (by decide) hf), clip_c (J_chgc.keep fr (by decide) (by decide) (by decide) hc), clip_a (J_tapec.keep fr (by decide) (by decide) (by decide) hta), clip_s (J_stac.keep fr (by decide) (by decide) (by decide) hs), clip_e (J_seenc.keep fr (by decide) (by decide) (by decide) he), clip_p (J_papc.keep fr (by decide) (by decide) (by decide) hp), g3, ?_⟩
    refine J_ordc.mark ho hPO (fun o => g6 48 o (by omega) (by decide)) (g6 35 1 (by omega) (by decide)) (fun k j h1 h2 h3 => ?_) g8
    have e := fr.1 k j h2 h3
    have ee : (if k < 150 then M2.1 k else M.1 k) j = M.1 k j := e
    rw [if_pos h1] at ee
    exact ee
  | 32, _ =>
    obtain ⟨r, M1, M2, g1, g2, g3, ⟨nm', n', ns', nr', k1, k2, k3, k4⟩, fr⟩ := st_back (nf_le (by decide)) (P := P) (a 1) ht hd hf hs he hp hm
    exact ⟨sh, P, M2, ⟨rfl, rfl, r, M1, g1, g2⟩, ⟨hL, hPO, qo, hor, hro, hq, np, nm', nc, nt, n', ns', nr', no, g3, J_drawc.keep fr (by decide) (by decide) (by decide) hd, k1, J_chgc.keep fr (by decide) (by decide) (by decide) hc, J_tapec.keep fr (by decide) (by decide) (by decide) hta, k2, k3, k4, J_mrk.keep fr (by decide) (by decide) hm, J_ordc.keep fr (by decide) (by decide) (by decide) (by decide) ho⟩⟩
  | 33, _ =>
    obtain ⟨d, -, t1, t2⟩ := id ht
    obtain ⟨r, g1, g2⟩ := st_count v_Nf (a 1) (M := M) (by rw [t1, t2]) (by rw [hd.2.1, hd.2.2.1]) (by rw [hf.1, hf.2.1]) (by rw [hc.2.1, hc.2.2.1]) (by rw [ho.1.2.1, ho.1.2.2]) (by rw [hs.2.1, hs.2.2.1]) (by rw [he.2.1, he.2.2.1]) (by rw [hp.2.1, hp.2.2.1]) (by rw [hta.2.1, hta.2.2.1])
    exact ⟨sh, P, M, ⟨rfl, rfl, r, M, g1, g2⟩, hI⟩
  | k + 34, hk => exact absurd hk (by omega)
