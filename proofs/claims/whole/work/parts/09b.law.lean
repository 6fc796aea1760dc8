/-! THE LAW: its calls, one by one, over pure steps -/
def v_nb (x : Int32) : Int32 := if x = 0 then 0 else 1
def v_Sc (E : v_E) (X : v_X) (bb L : Nat) (xs : Nat → Int32) : Prop := va_X bb L xs X.2.2.2.1 E.2.2.2.1 ∧ bb < v_o E
theorem nI_k (k : Nat) : nI k = Int32.ofNat k := rfl
section VL
variable {E : v_E} {X : v_X} {cc : ByteArray} {own : String} {nL d : Nat} {b : Nat × Nat} {pc : Nat} {lv : List (Nat × Value)} {st : List Value} {sh : v_S} {P : v_P} {M : v_M} {bb L : Nat} {xs : Nat → Int32}
theorem V.bud (b' : Nat × Nat) (h : b'.1 ≤ b.1 ∧ b'.2 ≤ b.2) (k : V E X b' pc lv st sh P M) : V E X b pc lv st sh P M := fun H locs cells slots ls hl hR hlo hc hs => k H locs cells slots ls hl hR hlo (by omega) (by omega)
theorem V.sldX (hX : v_K E X cc own nL d) (hS : v_Sc E X bb L xs) {j : Nat} {x : Int32} (hj : j < L) (hL : L ≤ 4096) (hx : x = nI j) (hd : decode cc pc = .ok (.iaload, 1)) (kk : V E X b (pc + 1) lv (.int (xs j) :: st) sh P M) : V E X b pc lv (.int x :: .ref bb :: st) sh P M := by
  obtain ⟨p, e, R, s, m, args, below, meth, c, Q⟩ := X
  intro H locs cells slots ls hl hR hlo hc hs
  obtain ⟨⟨scr, h1, h2, h3, h4, h5⟩, h6⟩ := hS
  subst hx
  have e1 : (nI j).toNatClampNeg = j := nI_clamp (by omega)
  have hv := h5 j hj
  exact W.iald (v := .int (xs j)) hX.1 hX.2.1 (by rw [hR.1 bb h6]; exact h1) h2 h3 (by rw [h4]; exact nI_in hj (by omega)) (by rw [e1]; exact hv) rfl rfl hd (kk H locs cells slots ls hl hR hlo hc hs)
theorem V.sld (hX : v_K E X cc own nL d) (hS : v_Sc E X bb L xs) {i k : Nat} {c : Int32} (hc : c = nI k) (hi : i + k < L) (hL : L ≤ 4096) (hd : decode cc pc = .ok (.iaload, 1)) (kk : V E X b (pc + 1) lv (.int (xs (i + k)) :: st) sh P M) : V E X b pc lv (.int (nI i + c) :: .ref bb :: st) sh P M :=
  V.sldX hX hS hi hL (by rw [hc]; exact nI_add i k) hd kk
theorem V.slen (hX : v_K E X cc own nL d) (hS : v_Sc E X bb L xs) (hd : decode cc pc = .ok (.arraylength, 1)) (kk : V E X b (pc + 1) lv (.int (nI L) :: st) sh P M) : V E X b pc lv (.ref bb :: st) sh P M := by
  obtain ⟨p, e, R, s, m, args, below, meth, c, Q⟩ := X
  intro H locs cells slots ls hl hR hlo hc hs
  obtain ⟨⟨scr, h1, h2, h3, h4, h5⟩, h6⟩ := hS
  exact W.alen (n := nI L) hX.1 hX.2.1 (by rw [hR.1 bb h6]; exact h1) h2 (by rw [h4] <;> rfl) rfl rfl hd (kk H locs cells slots ls hl hR hlo hc hs)
theorem V.nb (hX : v_K E X cc own nL d) {x : Int32} (d1 : decode cc pc = .ok (.ifCond .eq 7, 3)) (d2 : decode cc (pc + 3) = .ok (.iconst 1, 1)) (d3 : decode cc (pc + 4) = .ok (.goto 4, 3)) (d4 : decode cc (pc + 7) = .ok (.iconst 0, 1)) (kk : V E X b (pc + 8) lv (.int (v_nb x) :: st) sh P M) : V E X b pc lv (.int x :: st) sh P M := by
  refine V.if_eq (tgt := pc + 7) hX d1 (by omega) (fun c => ?_) (fun c => ?_)
  · refine V.iconst (v := 0) hX (by decide) d4 ?_
    rw [show v_nb x = 0 from if_pos c] at kk
    exact kk
  · refine V.iconst (v := 1) hX (by decide) d2 ?_
    refine V.goto (tgt := pc + 8) hX d3 (by omega) ?_
    rw [show v_nb x = 1 from if_neg c] at kk
    exact kk
end VL
set_option maxHeartbeats 4000000 in
set_option maxRecDepth 100000 in
theorem law_0 {E : v_E} {X : v_X} {bb L i : Nat} {xs : Nat → Int32} (hK : v_K E X cL_law RL 4 1300) (hS : v_Sc E X bb L xs) (hL4 : L ≤ 4096) (hi : i + 8 ≤ L) {b1 b2 : Nat} {sh : v_S} {P : v_P} {M M1 M2 : v_M} (hL : v_Lay sh P) {N : Nat} {r : Int32} (hx : f_X11_clock N (xs (i + 1)) M = some (r, M1)) (hm : f_X12_clock N (xs (i + 1)) M1 = some (r, M2)) (kk : V E X (b1, b2) 1632 [(0, .ref bb), (1, v_rf E 0), (2, v_rf E 79), (3, .int (nI i))] [] sh P M2) : V E X (b1 + 7, b2 + 1967) 184 [(0, .ref bb), (1, v_rf E 0), (2, v_rf E 79), (3, .int (nI i))] [] sh P M := by
  refine V.bud (b1, b2) ⟨Nat.le_add_right _ _, Nat.le_add_right _ _⟩ ?_
  refine V.aload_n (pc := 184) (i := 1) hK rfl ⟨_, rfl⟩ dL_law_184 ?_
  refine V.aload_n (pc := 185) (i := 0) hK rfl ⟨_, rfl⟩ dL_law_185 ?_
  refine V.iload_n (pc := 186) (i := 3) hK rfl dL_law_186 ?_
  refine V.iconst (pc := 187) (v := 1) hK (by decide) dL_law_187 ?_
  refine V.iadd (pc := 188) hK dL_law_188 ?_
  refine V.sld (pc := 189) (k := 1) hK hS (by decide) (by omega) hL4 dL_law_189 ?_
  refine V.cV (pc := 190) (ci := 11) hK (c_X11_clock E hL N _ _ hx) Y_X11_clock cv_RL_13 (by decide) rfl (hL.1 0 _ ls_0) dL_law_190 (by decide) rfl (Nat.le_of_ble_eq_true rfl) ?_
  refine V.aload_n (pc := 193) (i := 2) hK rfl ⟨_, rfl⟩ dL_law_193 ?_
  refine V.aload_n (pc := 194) (i := 0) hK rfl ⟨_, rfl⟩ dL_law_194 ?_
  refine V.iload_n (pc := 195) (i := 3) hK rfl dL_law_195 ?_
  refine V.iconst (pc := 196) (v := 1) hK (by decide) dL_law_196 ?_
  refine V.iadd (pc := 197) hK dL_law_197 ?_
  refine V.sld (pc := 198) (k := 1) hK hS (by decide) (by omega) hL4 dL_law_198 ?_
  refine V.cV (pc := 199) (ci := 12) hK (c_X12_clock E hL N _ _ hm) Y_X12_clock cv_RL_17 (by decide) rfl (hL.1 79 _ ls_79) dL_law_199 (by decide) rfl (Nat.le_of_ble_eq_true rfl) ?_
  exact V.icmp_eq (pc := 202) (tgt := 1632) hK dL_law_202 (by decide) (fun _ => kk) (fun c => absurd rfl c)
set_option maxHeartbeats 4000000 in
set_option maxRecDepth 100000 in
theorem law_1 {E : v_E} {X : v_X} {bb L i : Nat} {xs : Nat → Int32} (hK : v_K E X cL_law RL 4 1300) (hS : v_Sc E X bb L xs) (hL4 : L ≤ 4096) (hi : i + 8 ≤ L) {b1 b2 : Nat} {sh : v_S} {P : v_P} {M M1 M2 : v_M} (hL : v_Lay sh P) {N : Nat} {r : Int32} (hx : f_X11_part N (xs (i + 1)) (xs (i + 2)) (xs (i + 3)) (xs (i + 4)) (xs (i + 5)) (xs (i + 6)) (xs (i + 7)) M = some (r, M1)) (hm : f_X12_part N (xs (i + 1)) (xs (i + 2)) (xs (i + 3)) (xs (i + 4)) (xs (i + 5)) (xs (i + 6)) (xs (i + 7)) M1 = some (r, M2)) (kk : V E X (b1, b2) 1632 [(0, .ref bb), (1, v_rf E 0), (2, v_rf E 79), (3, .int (nI i))] [] sh P M2) : V E X (b1 + 7, b2 + 1967) 207 [(0, .ref bb), (1, v_rf E 0), (2, v_rf E 79), (3, .int (nI i))] [] sh P M := by
  refine V.bud (b1, b2) ⟨Nat.le_add_right _ _, Nat.le_add_right _ _⟩ ?_
  refine V.aload_n (pc := 207) (i := 1) hK rfl ⟨_, rfl⟩ dL_law_207 ?_
  refine V.aload_n (pc := 208) (i := 0) hK rfl ⟨_, rfl⟩ dL_law_208 ?_
  refine V.iload_n (pc := 209) (i := 3) hK rfl dL_law_209 ?_
  refine V.iconst (pc := 210) (v := 1) hK (by decide) dL_law_210 ?_
  refine V.iadd (pc := 211) hK dL_law_211 ?_
  refine V.sld (pc := 212) (k := 1) hK hS (by decide) (by omega) hL4 dL_law_212 ?_
  refine V.aload_n (pc := 213) (i := 0) hK rfl ⟨_, rfl⟩ dL_law_213 ?_
  refine V.iload_n (pc := 214) (i := 3) hK rfl dL_law_214 ?_
  refine V.iconst (pc := 215) (v := 2) hK (by decide) dL_law_215 ?_
  refine V.iadd (pc := 216) hK dL_law_216 ?_
  refine V.sld (pc := 217) (k := 2) hK hS (by decide) (by omega) hL4 dL_law_217 ?_
  refine V.aload_n (pc := 218) (i := 0) hK rfl ⟨_, rfl⟩ dL_law_218 ?_
  refine V.iload_n (pc := 219) (i := 3) hK rfl dL_law_219 ?_
  refine V.iconst (pc := 220) (v := 3) hK (by decide) dL_law_220 ?_
  refine V.iadd (pc := 221) hK dL_law_221 ?_
  refine V.sld (pc := 222) (k := 3) hK hS (by decide) (by omega) hL4 dL_law_222 ?_
  refine V.aload_n (pc := 223) (i := 0) hK rfl ⟨_, rfl⟩ dL_law_223 ?_
  refine V.iload_n (pc := 224) (i := 3) hK rfl dL_law_224 ?_
  refine V.iconst (pc := 225) (v := 4) hK (by decide) dL_law_225 ?_
  refine V.iadd (pc := 226) hK dL_law_226 ?_
  refine V.sld (pc := 227) (k := 4) hK hS (by decide) (by omega) hL4 dL_law_227 ?_
  refine V.aload_n (pc := 228) (i := 0) hK rfl ⟨_, rfl⟩ dL_law_228 ?_
  refine V.iload_n (pc := 229) (i := 3) hK rfl dL_law_229 ?_
  refine V.iconst (pc := 230) (v := 5) hK (by decide) dL_law_230 ?_
  refine V.iadd (pc := 231) hK dL_law_231 ?_
  refine V.sld (pc := 232) (k := 5) hK hS (by decide) (by omega) hL4 dL_law_232 ?_
  refine V.aload_n (pc := 233) (i := 0) hK rfl ⟨_, rfl⟩ dL_law_233 ?_
  refine V.iload_n (pc := 234) (i := 3) hK rfl dL_law_234 ?_
  refine V.bipush (pc := 235) (v := 6) hK (by decide) dL_law_235 ?_
  refine V.iadd (pc := 237) hK dL_law_237 ?_
  refine V.sld (pc := 238) (k := 6) hK hS (by decide) (by omega) hL4 dL_law_238 ?_
  refine V.aload_n (pc := 239) (i := 0) hK rfl ⟨_, rfl⟩ dL_law_239 ?_
  refine V.iload_n (pc := 240) (i := 3) hK rfl dL_law_240 ?_
  refine V.bipush (pc := 241) (v := 7) hK (by decide) dL_law_241 ?_
  refine V.iadd (pc := 243) hK dL_law_243 ?_
  refine V.sld (pc := 244) (k := 7) hK hS (by decide) (by omega) hL4 dL_law_244 ?_
  refine V.cV (pc := 245) (ci := 11) hK (c_X11_part E hL N _ _ _ _ _ _ _ _ hx) Y_X11_part cv_RL_18 (by decide) rfl (hL.1 0 _ ls_0) dL_law_245 (by decide) rfl (Nat.le_of_ble_eq_true rfl) ?_
  refine V.aload_n (pc := 248) (i := 2) hK rfl ⟨_, rfl⟩ dL_law_248 ?_
  refine V.aload_n (pc := 249) (i := 0) hK rfl ⟨_, rfl⟩ dL_law_249 ?_
  refine V.iload_n (pc := 250) (i := 3) hK rfl dL_law_250 ?_
  refine V.iconst (pc := 251) (v := 1) hK (by decide) dL_law_251 ?_
  refine V.iadd (pc := 252) hK dL_law_252 ?_
  refine V.sld (pc := 253) (k := 1) hK hS (by decide) (by omega) hL4 dL_law_253 ?_
  refine V.aload_n (pc := 254) (i := 0) hK rfl ⟨_, rfl⟩ dL_law_254 ?_
  refine V.iload_n (pc := 255) (i := 3) hK rfl dL_law_255 ?_
  refine V.iconst (pc := 256) (v := 2) hK (by decide) dL_law_256 ?_
  refine V.iadd (pc := 257) hK dL_law_257 ?_
  refine V.sld (pc := 258) (k := 2) hK hS (by decide) (by omega) hL4 dL_law_258 ?_
  refine V.aload_n (pc := 259) (i := 0) hK rfl ⟨_, rfl⟩ dL_law_259 ?_
  refine V.iload_n (pc := 260) (i := 3) hK rfl dL_law_260 ?_
  refine V.iconst (pc := 261) (v := 3) hK (by decide) dL_law_261 ?_
  refine V.iadd (pc := 262) hK dL_law_262 ?_
  refine V.sld (pc := 263) (k := 3) hK hS (by decide) (by omega) hL4 dL_law_263 ?_
  refine V.aload_n (pc := 264) (i := 0) hK rfl ⟨_, rfl⟩ dL_law_264 ?_
  refine V.iload_n (pc := 265) (i := 3) hK rfl dL_law_265 ?_
  refine V.iconst (pc := 266) (v := 4) hK (by decide) dL_law_266 ?_
  refine V.iadd (pc := 267) hK dL_law_267 ?_
  refine V.sld (pc := 268) (k := 4) hK hS (by decide) (by omega) hL4 dL_law_268 ?_
  refine V.aload_n (pc := 269) (i := 0) hK rfl ⟨_, rfl⟩ dL_law_269 ?_
  refine V.iload_n (pc := 270) (i := 3) hK rfl dL_law_270 ?_
  refine V.iconst (pc := 271) (v := 5) hK (by decide) dL_law_271 ?_
  refine V.iadd (pc := 272) hK dL_law_272 ?_
  refine V.sld (pc := 273) (k := 5) hK hS (by decide) (by omega) hL4 dL_law_273 ?_
  refine V.aload_n (pc := 274) (i := 0) hK rfl ⟨_, rfl⟩ dL_law_274 ?_
  refine V.iload_n (pc := 275) (i := 3) hK rfl dL_law_275 ?_
  refine V.bipush (pc := 276) (v := 6) hK (by decide) dL_law_276 ?_
  refine V.iadd (pc := 278) hK dL_law_278 ?_
  refine V.sld (pc := 279) (k := 6) hK hS (by decide) (by omega) hL4 dL_law_279 ?_
  refine V.aload_n (pc := 280) (i := 0) hK rfl ⟨_, rfl⟩ dL_law_280 ?_
  refine V.iload_n (pc := 281) (i := 3) hK rfl dL_law_281 ?_
  refine V.bipush (pc := 282) (v := 7) hK (by decide) dL_law_282 ?_
  refine V.iadd (pc := 284) hK dL_law_284 ?_
  refine V.sld (pc := 285) (k := 7) hK hS (by decide) (by omega) hL4 dL_law_285 ?_
  refine V.cV (pc := 286) (ci := 12) hK (c_X12_part E hL N _ _ _ _ _ _ _ _ hm) Y_X12_part cv_RL_22 (by decide) rfl (hL.1 79 _ ls_79) dL_law_286 (by decide) rfl (Nat.le_of_ble_eq_true rfl) ?_
  exact V.icmp_eq (pc := 289) (tgt := 1632) hK dL_law_289 (by decide) (fun _ => kk) (fun c => absurd rfl c)
set_option maxHeartbeats 4000000 in
set_option maxRecDepth 100000 in
theorem law_2 {E : v_E} {X : v_X} {bb L i : Nat} {xs : Nat → Int32} (hK : v_K E X cL_law RL 4 1300) (hS : v_Sc E X bb L xs) (hL4 : L ≤ 4096) (hi : i + 8 ≤ L) {b1 b2 : Nat} {sh : v_S} {P : v_P} {M M1 M2 : v_M} (hL : v_Lay sh P) {N : Nat} {r : Int32} (hx : f_X11_machine N M = some (r, M1)) (hm : f_X12_machine N M1 = some (r, M2)) (kk : V E X (b1, b2) 1632 [(0, .ref bb), (1, v_rf E 0), (2, v_rf E 79), (3, .int (nI i))] [] sh P M2) : V E X (b1 + 7, b2 + 1967) 294 [(0, .ref bb), (1, v_rf E 0), (2, v_rf E 79), (3, .int (nI i))] [] sh P M := by
  refine V.bud (b1, b2) ⟨Nat.le_add_right _ _, Nat.le_add_right _ _⟩ ?_
  refine V.aload_n (pc := 294) (i := 1) hK rfl ⟨_, rfl⟩ dL_law_294 ?_
  refine V.cV (pc := 295) (ci := 11) hK (c_X11_machine E hL N _ hx) Y_X11_machine cv_RL_23 (by decide) rfl (hL.1 0 _ ls_0) dL_law_295 (by decide) rfl (Nat.le_of_ble_eq_true rfl) ?_
  refine V.aload_n (pc := 298) (i := 2) hK rfl ⟨_, rfl⟩ dL_law_298 ?_
  refine V.cV (pc := 299) (ci := 12) hK (c_X12_machine E hL N _ hm) Y_X12_machine cv_RL_27 (by decide) rfl (hL.1 79 _ ls_79) dL_law_299 (by decide) rfl (Nat.le_of_ble_eq_true rfl) ?_
  exact V.icmp_eq (pc := 302) (tgt := 1632) hK dL_law_302 (by decide) (fun _ => kk) (fun c => absurd rfl c)
set_option maxHeartbeats 4000000 in
set_option maxRecDepth 100000 in
theorem law_3 {E : v_E} {X : v_X} {bb L i : Nat} {xs : Nat → Int32} (hK : v_K E X cL_law RL 4 1300) (hS : v_Sc E X bb L xs) (hL4 : L ≤ 4096) (hi : i + 8 ≤ L) {b1 b2 : Nat} {sh : v_S} {P : v_P} {M M1 M2 : v_M} (hL : v_Lay sh P) {N : Nat} {r : Int32} (hx : f_X11_turn N (xs (i + 1)) (xs (i + 2)) (xs (i + 3)) (xs (i + 4)) M = some (r, M1)) (hm : f_X12_turn N (xs (i + 1)) (xs (i + 2)) (xs (i + 3)) (xs (i + 4)) M1 = some (r, M2)) (kk : V E X (b1, b2) 1632 [(0, .ref bb), (1, v_rf E 0), (2, v_rf E 79), (3, .int (nI i))] [] sh P M2) : V E X (b1 + 7, b2 + 1967) 307 [(0, .ref bb), (1, v_rf E 0), (2, v_rf E 79), (3, .int (nI i))] [] sh P M := by
  refine V.bud (b1, b2) ⟨Nat.le_add_right _ _, Nat.le_add_right _ _⟩ ?_
  refine V.aload_n (pc := 307) (i := 1) hK rfl ⟨_, rfl⟩ dL_law_307 ?_
  refine V.aload_n (pc := 308) (i := 0) hK rfl ⟨_, rfl⟩ dL_law_308 ?_
  refine V.iload_n (pc := 309) (i := 3) hK rfl dL_law_309 ?_
  refine V.iconst (pc := 310) (v := 1) hK (by decide) dL_law_310 ?_
  refine V.iadd (pc := 311) hK dL_law_311 ?_
  refine V.sld (pc := 312) (k := 1) hK hS (by decide) (by omega) hL4 dL_law_312 ?_
  refine V.aload_n (pc := 313) (i := 0) hK rfl ⟨_, rfl⟩ dL_law_313 ?_
  refine V.iload_n (pc := 314) (i := 3) hK rfl dL_law_314 ?_
  refine V.iconst (pc := 315) (v := 2) hK (by decide) dL_law_315 ?_
  refine V.iadd (pc := 316) hK dL_law_316 ?_
  refine V.sld (pc := 317) (k := 2) hK hS (by decide) (by omega) hL4 dL_law_317 ?_
  refine V.aload_n (pc := 318) (i := 0) hK rfl ⟨_, rfl⟩ dL_law_318 ?_
  refine V.iload_n (pc := 319) (i := 3) hK rfl dL_law_319 ?_
  refine V.iconst (pc := 320) (v := 3) hK (by decide) dL_law_320 ?_
  refine V.iadd (pc := 321) hK dL_law_321 ?_
  refine V.sld (pc := 322) (k := 3) hK hS (by decide) (by omega) hL4 dL_law_322 ?_
  refine V.aload_n (pc := 323) (i := 0) hK rfl ⟨_, rfl⟩ dL_law_323 ?_
  refine V.iload_n (pc := 324) (i := 3) hK rfl dL_law_324 ?_
  refine V.iconst (pc := 325) (v := 4) hK (by decide) dL_law_325 ?_
  refine V.iadd (pc := 326) hK dL_law_326 ?_
  refine V.sld (pc := 327) (k := 4) hK hS (by decide) (by omega) hL4 dL_law_327 ?_
  refine V.cV (pc := 328) (ci := 11) hK (c_X11_turn E hL N _ _ _ _ _ hx) Y_X11_turn cv_RL_28 (by decide) rfl (hL.1 0 _ ls_0) dL_law_328 (by decide) rfl (Nat.le_of_ble_eq_true rfl) ?_
  refine V.aload_n (pc := 331) (i := 2) hK rfl ⟨_, rfl⟩ dL_law_331 ?_
  refine V.aload_n (pc := 332) (i := 0) hK rfl ⟨_, rfl⟩ dL_law_332 ?_
  refine V.iload_n (pc := 333) (i := 3) hK rfl dL_law_333 ?_
  refine V.iconst (pc := 334) (v := 1) hK (by decide) dL_law_334 ?_
  refine V.iadd (pc := 335) hK dL_law_335 ?_
  refine V.sld (pc := 336) (k := 1) hK hS (by decide) (by omega) hL4 dL_law_336 ?_
  refine V.aload_n (pc := 337) (i := 0) hK rfl ⟨_, rfl⟩ dL_law_337 ?_
  refine V.iload_n (pc := 338) (i := 3) hK rfl dL_law_338 ?_
  refine V.iconst (pc := 339) (v := 2) hK (by decide) dL_law_339 ?_
  refine V.iadd (pc := 340) hK dL_law_340 ?_
  refine V.sld (pc := 341) (k := 2) hK hS (by decide) (by omega) hL4 dL_law_341 ?_
  refine V.aload_n (pc := 342) (i := 0) hK rfl ⟨_, rfl⟩ dL_law_342 ?_
  refine V.iload_n (pc := 343) (i := 3) hK rfl dL_law_343 ?_
  refine V.iconst (pc := 344) (v := 3) hK (by decide) dL_law_344 ?_
  refine V.iadd (pc := 345) hK dL_law_345 ?_
  refine V.sld (pc := 346) (k := 3) hK hS (by decide) (by omega) hL4 dL_law_346 ?_
  refine V.aload_n (pc := 347) (i := 0) hK rfl ⟨_, rfl⟩ dL_law_347 ?_
  refine V.iload_n (pc := 348) (i := 3) hK rfl dL_law_348 ?_
  refine V.iconst (pc := 349) (v := 4) hK (by decide) dL_law_349 ?_
  refine V.iadd (pc := 350) hK dL_law_350 ?_
  refine V.sld (pc := 351) (k := 4) hK hS (by decide) (by omega) hL4 dL_law_351 ?_
  refine V.cV (pc := 352) (ci := 12) hK (c_X12_turn E hL N _ _ _ _ _ hm) Y_X12_turn cv_RL_32 (by decide) rfl (hL.1 79 _ ls_79) dL_law_352 (by decide) rfl (Nat.le_of_ble_eq_true rfl) ?_
  exact V.icmp_eq (pc := 355) (tgt := 1632) hK dL_law_355 (by decide) (fun _ => kk) (fun c => absurd rfl c)
set_option maxHeartbeats 4000000 in
set_option maxRecDepth 100000 in
theorem law_4 {E : v_E} {X : v_X} {bb L i : Nat} {xs : Nat → Int32} (hK : v_K E X cL_law RL 4 1300) (hS : v_Sc E X bb L xs) (hL4 : L ≤ 4096) (hi : i + 8 ≤ L) {b1 b2 : Nat} {sh : v_S} {P : v_P} {M M1 M2 : v_M} (hL : v_Lay sh P) {N : Nat} {r : Int32} (hx : f_X11_anew N (xs (i + 1)) (xs (i + 2)) M = some (r, M1)) (hm : f_X12_anew N (xs (i + 1)) (xs (i + 2)) M1 = some (r, M2)) (kk : V E X (b1, b2) 1632 [(0, .ref bb), (1, v_rf E 0), (2, v_rf E 79), (3, .int (nI i))] [] sh P M2) : V E X (b1 + 7, b2 + 1967) 360 [(0, .ref bb), (1, v_rf E 0), (2, v_rf E 79), (3, .int (nI i))] [] sh P M := by
  refine V.bud (b1, b2) ⟨Nat.le_add_right _ _, Nat.le_add_right _ _⟩ ?_
  refine V.aload_n (pc := 360) (i := 1) hK rfl ⟨_, rfl⟩ dL_law_360 ?_
  refine V.aload_n (pc := 361) (i := 0) hK rfl ⟨_, rfl⟩ dL_law_361 ?_
  refine V.iload_n (pc := 362) (i := 3) hK rfl dL_law_362 ?_
  refine V.iconst (pc := 363) (v := 1) hK (by decide) dL_law_363 ?_
  refine V.iadd (pc := 364) hK dL_law_364 ?_
  refine V.sld (pc := 365) (k := 1) hK hS (by decide) (by omega) hL4 dL_law_365 ?_
  refine V.aload_n (pc := 366) (i := 0) hK rfl ⟨_, rfl⟩ dL_law_366 ?_
  refine V.iload_n (pc := 367) (i := 3) hK rfl dL_law_367 ?_
  refine V.iconst (pc := 368) (v := 2) hK (by decide) dL_law_368 ?_
  refine V.iadd (pc := 369) hK dL_law_369 ?_
  refine V.sld (pc := 370) (k := 2) hK hS (by decide) (by omega) hL4 dL_law_370 ?_
  refine V.cV (pc := 371) (ci := 11) hK (c_X11_anew E hL N _ _ _ hx) Y_X11_anew cv_RL_33 (by decide) rfl (hL.1 0 _ ls_0) dL_law_371 (by decide) rfl (Nat.le_of_ble_eq_true rfl) ?_
  refine V.aload_n (pc := 374) (i := 2) hK rfl ⟨_, rfl⟩ dL_law_374 ?_
  refine V.aload_n (pc := 375) (i := 0) hK rfl ⟨_, rfl⟩ dL_law_375 ?_
  refine V.iload_n (pc := 376) (i := 3) hK rfl dL_law_376 ?_
  refine V.iconst (pc := 377) (v := 1) hK (by decide) dL_law_377 ?_
  refine V.iadd (pc := 378) hK dL_law_378 ?_
  refine V.sld (pc := 379) (k := 1) hK hS (by decide) (by omega) hL4 dL_law_379 ?_
  refine V.aload_n (pc := 380) (i := 0) hK rfl ⟨_, rfl⟩ dL_law_380 ?_
  refine V.iload_n (pc := 381) (i := 3) hK rfl dL_law_381 ?_
  refine V.iconst (pc := 382) (v := 2) hK (by decide) dL_law_382 ?_
  refine V.iadd (pc := 383) hK dL_law_383 ?_
  refine V.sld (pc := 384) (k := 2) hK hS (by decide) (by omega) hL4 dL_law_384 ?_
  refine V.cV (pc := 385) (ci := 12) hK (c_X12_anew E hL N _ _ _ hm) Y_X12_anew cv_RL_37 (by decide) rfl (hL.1 79 _ ls_79) dL_law_385 (by decide) rfl (Nat.le_of_ble_eq_true rfl) ?_
  exact V.icmp_eq (pc := 388) (tgt := 1632) hK dL_law_388 (by decide) (fun _ => kk) (fun c => absurd rfl c)
set_option maxHeartbeats 4000000 in
set_option maxRecDepth 100000 in
theorem law_5 {E : v_E} {X : v_X} {bb L i : Nat} {xs : Nat → Int32} (hK : v_K E X cL_law RL 4 1300) (hS : v_Sc E X bb L xs) (hL4 : L ≤ 4096) (hi : i + 8 ≤ L) {b1 b2 : Nat} {sh : v_S} {P : v_P} {M M1 M2 : v_M} (hL : v_Lay sh P) {N : Nat} {r : Int32} (hx : f_X11_push N (xs (i + 1)) (xs (i + 2)) (xs (i + 3)) M = some (r, M1)) (hm : f_X12_push N (xs (i + 1)) (xs (i + 2)) (xs (i + 3)) M1 = some (r, M2)) (kk : V E X (b1, b2) 1632 [(0, .ref bb), (1, v_rf E 0), (2, v_rf E 79), (3, .int (nI i))] [] sh P M2) : V E X (b1 + 7, b2 + 1967) 393 [(0, .ref bb), (1, v_rf E 0), (2, v_rf E 79), (3, .int (nI i))] [] sh P M := by
  refine V.bud (b1, b2) ⟨Nat.le_add_right _ _, Nat.le_add_right _ _⟩ ?_
  refine V.aload_n (pc := 393) (i := 1) hK rfl ⟨_, rfl⟩ dL_law_393 ?_
  refine V.aload_n (pc := 394) (i := 0) hK rfl ⟨_, rfl⟩ dL_law_394 ?_
  refine V.iload_n (pc := 395) (i := 3) hK rfl dL_law_395 ?_
  refine V.iconst (pc := 396) (v := 1) hK (by decide) dL_law_396 ?_
  refine V.iadd (pc := 397) hK dL_law_397 ?_
  refine V.sld (pc := 398) (k := 1) hK hS (by decide) (by omega) hL4 dL_law_398 ?_
  refine V.aload_n (pc := 399) (i := 0) hK rfl ⟨_, rfl⟩ dL_law_399 ?_
  refine V.iload_n (pc := 400) (i := 3) hK rfl dL_law_400 ?_
  refine V.iconst (pc := 401) (v := 2) hK (by decide) dL_law_401 ?_
  refine V.iadd (pc := 402) hK dL_law_402 ?_
  refine V.sld (pc := 403) (k := 2) hK hS (by decide) (by omega) hL4 dL_law_403 ?_
  refine V.aload_n (pc := 404) (i := 0) hK rfl ⟨_, rfl⟩ dL_law_404 ?_
  refine V.iload_n (pc := 405) (i := 3) hK rfl dL_law_405 ?_
  refine V.iconst (pc := 406) (v := 3) hK (by decide) dL_law_406 ?_
  refine V.iadd (pc := 407) hK dL_law_407 ?_
  refine V.sld (pc := 408) (k := 3) hK hS (by decide) (by omega) hL4 dL_law_408 ?_
  refine V.cV (pc := 409) (ci := 11) hK (c_X11_push E hL N _ _ _ _ hx) Y_X11_push cv_RL_38 (by decide) rfl (hL.1 0 _ ls_0) dL_law_409 (by decide) rfl (Nat.le_of_ble_eq_true rfl) ?_
  refine V.aload_n (pc := 412) (i := 2) hK rfl ⟨_, rfl⟩ dL_law_412 ?_
  refine V.aload_n (pc := 413) (i := 0) hK rfl ⟨_, rfl⟩ dL_law_413 ?_
  refine V.iload_n (pc := 414) (i := 3) hK rfl dL_law_414 ?_
  refine V.iconst (pc := 415) (v := 1) hK (by decide) dL_law_415 ?_
  refine V.iadd (pc := 416) hK dL_law_416 ?_
  refine V.sld (pc := 417) (k := 1) hK hS (by decide) (by omega) hL4 dL_law_417 ?_
  refine V.aload_n (pc := 418) (i := 0) hK rfl ⟨_, rfl⟩ dL_law_418 ?_
  refine V.iload_n (pc := 419) (i := 3) hK rfl dL_law_419 ?_
  refine V.iconst (pc := 420) (v := 2) hK (by decide) dL_law_420 ?_
  refine V.iadd (pc := 421) hK dL_law_421 ?_
  refine V.sld (pc := 422) (k := 2) hK hS (by decide) (by omega) hL4 dL_law_422 ?_
  refine V.aload_n (pc := 423) (i := 0) hK rfl ⟨_, rfl⟩ dL_law_423 ?_
  refine V.iload_n (pc := 424) (i := 3) hK rfl dL_law_424 ?_
  refine V.iconst (pc := 425) (v := 3) hK (by decide) dL_law_425 ?_
  refine V.iadd (pc := 426) hK dL_law_426 ?_
  refine V.sld (pc := 427) (k := 3) hK hS (by decide) (by omega) hL4 dL_law_427 ?_
  refine V.cV (pc := 428) (ci := 12) hK (c_X12_push E hL N _ _ _ _ hm) Y_X12_push cv_RL_42 (by decide) rfl (hL.1 79 _ ls_79) dL_law_428 (by decide) rfl (Nat.le_of_ble_eq_true rfl) ?_
  exact V.icmp_eq (pc := 431) (tgt := 1632) hK dL_law_431 (by decide) (fun _ => kk) (fun c => absurd rfl c)
set_option maxHeartbeats 4000000 in
set_option maxRecDepth 100000 in
theorem law_6 {E : v_E} {X : v_X} {bb L i : Nat} {xs : Nat → Int32} (hK : v_K E X cL_law RL 4 1300) (hS : v_Sc E X bb L xs) (hL4 : L ≤ 4096) (hi : i + 8 ≤ L) {b1 b2 : Nat} {sh : v_S} {P : v_P} {M M1 M2 : v_M} (hL : v_Lay sh P) {N : Nat} {r : Int32} (hx : f_X11_release N (xs (i + 1)) M = some (r, M1)) (hm : f_X12_release N (xs (i + 1)) M1 = some (r, M2)) (kk : V E X (b1, b2) 1632 [(0, .ref bb), (1, v_rf E 0), (2, v_rf E 79), (3, .int (nI i))] [] sh P M2) : V E X (b1 + 7, b2 + 1967) 436 [(0, .ref bb), (1, v_rf E 0), (2, v_rf E 79), (3, .int (nI i))] [] sh P M := by
  refine V.bud (b1, b2) ⟨Nat.le_add_right _ _, Nat.le_add_right _ _⟩ ?_
  refine V.aload_n (pc := 436) (i := 1) hK rfl ⟨_, rfl⟩ dL_law_436 ?_
  refine V.aload_n (pc := 437) (i := 0) hK rfl ⟨_, rfl⟩ dL_law_437 ?_
  refine V.iload_n (pc := 438) (i := 3) hK rfl dL_law_438 ?_
  refine V.iconst (pc := 439) (v := 1) hK (by decide) dL_law_439 ?_
  refine V.iadd (pc := 440) hK dL_law_440 ?_
  refine V.sld (pc := 441) (k := 1) hK hS (by decide) (by omega) hL4 dL_law_441 ?_
  refine V.cV (pc := 442) (ci := 11) hK (c_X11_release E hL N _ _ hx) Y_X11_release cv_RL_43 (by decide) rfl (hL.1 0 _ ls_0) dL_law_442 (by decide) rfl (Nat.le_of_ble_eq_true rfl) ?_
  refine V.aload_n (pc := 445) (i := 2) hK rfl ⟨_, rfl⟩ dL_law_445 ?_
  refine V.aload_n (pc := 446) (i := 0) hK rfl ⟨_, rfl⟩ dL_law_446 ?_
  refine V.iload_n (pc := 447) (i := 3) hK rfl dL_law_447 ?_
  refine V.iconst (pc := 448) (v := 1) hK (by decide) dL_law_448 ?_
  refine V.iadd (pc := 449) hK dL_law_449 ?_
  refine V.sld (pc := 450) (k := 1) hK hS (by decide) (by omega) hL4 dL_law_450 ?_
  refine V.cV (pc := 451) (ci := 12) hK (c_X12_release E hL N _ _ hm) Y_X12_release cv_RL_46 (by decide) rfl (hL.1 79 _ ls_79) dL_law_451 (by decide) rfl (Nat.le_of_ble_eq_true rfl) ?_
  exact V.icmp_eq (pc := 454) (tgt := 1632) hK dL_law_454 (by decide) (fun _ => kk) (fun c => absurd rfl c)
set_option maxHeartbeats 4000000 in
set_option maxRecDepth 100000 in
theorem law_7 {E : v_E} {X : v_X} {bb L i : Nat} {xs : Nat → Int32} (hK : v_K E X cL_law RL 4 1300) (hS : v_Sc E X bb L xs) (hL4 : L ≤ 4096) (hi : i + 8 ≤ L) {b1 b2 : Nat} {sh : v_S} {P : v_P} {M M1 M2 : v_M} (hL : v_Lay sh P) {N : Nat} {r : Int32} (hx : f_X11_state N (xs (i + 1)) (xs (i + 2)) (xs (i + 3)) M = some (r, M1)) (hm : f_X12_state N (xs (i + 1)) (xs (i + 2)) (xs (i + 3)) M1 = some (r, M2)) (kk : V E X (b1, b2) 1632 [(0, .ref bb), (1, v_rf E 0), (2, v_rf E 79), (3, .int (nI i))] [] sh P M2) : V E X (b1 + 7, b2 + 1967) 459 [(0, .ref bb), (1, v_rf E 0), (2, v_rf E 79), (3, .int (nI i))] [] sh P M := by
  refine V.bud (b1, b2) ⟨Nat.le_add_right _ _, Nat.le_add_right _ _⟩ ?_
  refine V.aload_n (pc := 459) (i := 1) hK rfl ⟨_, rfl⟩ dL_law_459 ?_
  refine V.aload_n (pc := 460) (i := 0) hK rfl ⟨_, rfl⟩ dL_law_460 ?_
  refine V.iload_n (pc := 461) (i := 3) hK rfl dL_law_461 ?_
  refine V.iconst (pc := 462) (v := 1) hK (by decide) dL_law_462 ?_
  refine V.iadd (pc := 463) hK dL_law_463 ?_
  refine V.sld (pc := 464) (k := 1) hK hS (by decide) (by omega) hL4 dL_law_464 ?_
  refine V.aload_n (pc := 465) (i := 0) hK rfl ⟨_, rfl⟩ dL_law_465 ?_
  refine V.iload_n (pc := 466) (i := 3) hK rfl dL_law_466 ?_
  refine V.iconst (pc := 467) (v := 2) hK (by decide) dL_law_467 ?_
  refine V.iadd (pc := 468) hK dL_law_468 ?_
  refine V.sld (pc := 469) (k := 2) hK hS (by decide) (by omega) hL4 dL_law_469 ?_
  refine V.aload_n (pc := 470) (i := 0) hK rfl ⟨_, rfl⟩ dL_law_470 ?_
  refine V.iload_n (pc := 471) (i := 3) hK rfl dL_law_471 ?_
  refine V.iconst (pc := 472) (v := 3) hK (by decide) dL_law_472 ?_
  refine V.iadd (pc := 473) hK dL_law_473 ?_
  refine V.sld (pc := 474) (k := 3) hK hS (by decide) (by omega) hL4 dL_law_474 ?_
  refine V.cV (pc := 475) (ci := 11) hK (c_X11_state E hL N _ _ _ _ hx) Y_X11_state cv_RL_47 (by decide) rfl (hL.1 0 _ ls_0) dL_law_475 (by decide) rfl (Nat.le_of_ble_eq_true rfl) ?_
  refine V.aload_n (pc := 478) (i := 2) hK rfl ⟨_, rfl⟩ dL_law_478 ?_
  refine V.aload_n (pc := 479) (i := 0) hK rfl ⟨_, rfl⟩ dL_law_479 ?_
  refine V.iload_n (pc := 480) (i := 3) hK rfl dL_law_480 ?_
  refine V.iconst (pc := 481) (v := 1) hK (by decide) dL_law_481 ?_
  refine V.iadd (pc := 482) hK dL_law_482 ?_
  refine V.sld (pc := 483) (k := 1) hK hS (by decide) (by omega) hL4 dL_law_483 ?_
  refine V.aload_n (pc := 484) (i := 0) hK rfl ⟨_, rfl⟩ dL_law_484 ?_
  refine V.iload_n (pc := 485) (i := 3) hK rfl dL_law_485 ?_
  refine V.iconst (pc := 486) (v := 2) hK (by decide) dL_law_486 ?_
  refine V.iadd (pc := 487) hK dL_law_487 ?_
  refine V.sld (pc := 488) (k := 2) hK hS (by decide) (by omega) hL4 dL_law_488 ?_
  refine V.aload_n (pc := 489) (i := 0) hK rfl ⟨_, rfl⟩ dL_law_489 ?_
  refine V.iload_n (pc := 490) (i := 3) hK rfl dL_law_490 ?_
  refine V.iconst (pc := 491) (v := 3) hK (by decide) dL_law_491 ?_
  refine V.iadd (pc := 492) hK dL_law_492 ?_
  refine V.sld (pc := 493) (k := 3) hK hS (by decide) (by omega) hL4 dL_law_493 ?_
  refine V.cV (pc := 494) (ci := 12) hK (c_X12_state E hL N _ _ _ _ hm) Y_X12_state cv_RL_50 (by decide) rfl (hL.1 79 _ ls_79) dL_law_494 (by decide) rfl (Nat.le_of_ble_eq_true rfl) ?_
  exact V.icmp_eq (pc := 497) (tgt := 1632) hK dL_law_497 (by decide) (fun _ => kk) (fun c => absurd rfl c)
set_option maxHeartbeats 4000000 in
set_option maxRecDepth 100000 in
theorem law_8 {E : v_E} {X : v_X} {bb L i : Nat} {xs : Nat → Int32} (hK : v_K E X cL_law RL 4 1300) (hS : v_Sc E X bb L xs) (hL4 : L ≤ 4096) (hi : i + 8 ≤ L) {b1 b2 : Nat} {sh : v_S} {P : v_P} {M M1 M2 : v_M} (hL : v_Lay sh P) {N : Nat} {r : Int32} (hx : f_X11_judged N (xs (i + 1)) (xs (i + 2)) (xs (i + 3)) M = some (r, M1)) (hm : f_X12_judged N (xs (i + 1)) (xs (i + 2)) (xs (i + 3)) M1 = some (r, M2)) (kk : V E X (b1, b2) 1632 [(0, .ref bb), (1, v_rf E 0), (2, v_rf E 79), (3, .int (nI i))] [] sh P M2) : V E X (b1 + 7, b2 + 1967) 502 [(0, .ref bb), (1, v_rf E 0), (2, v_rf E 79), (3, .int (nI i))] [] sh P M := by
  refine V.bud (b1, b2) ⟨Nat.le_add_right _ _, Nat.le_add_right _ _⟩ ?_
  refine V.aload_n (pc := 502) (i := 1) hK rfl ⟨_, rfl⟩ dL_law_502 ?_
  refine V.aload_n (pc := 503) (i := 0) hK rfl ⟨_, rfl⟩ dL_law_503 ?_
  refine V.iload_n (pc := 504) (i := 3) hK rfl dL_law_504 ?_
  refine V.iconst (pc := 505) (v := 1) hK (by decide) dL_law_505 ?_
  refine V.iadd (pc := 506) hK dL_law_506 ?_
  refine V.sld (pc := 507) (k := 1) hK hS (by decide) (by omega) hL4 dL_law_507 ?_
  refine V.aload_n (pc := 508) (i := 0) hK rfl ⟨_, rfl⟩ dL_law_508 ?_
  refine V.iload_n (pc := 509) (i := 3) hK rfl dL_law_509 ?_
  refine V.iconst (pc := 510) (v := 2) hK (by decide) dL_law_510 ?_
  refine V.iadd (pc := 511) hK dL_law_511 ?_
  refine V.sld (pc := 512) (k := 2) hK hS (by decide) (by omega) hL4 dL_law_512 ?_
  refine V.aload_n (pc := 513) (i := 0) hK rfl ⟨_, rfl⟩ dL_law_513 ?_
  refine V.iload_n (pc := 514) (i := 3) hK rfl dL_law_514 ?_
  refine V.iconst (pc := 515) (v := 3) hK (by decide) dL_law_515 ?_
  refine V.iadd (pc := 516) hK dL_law_516 ?_
  refine V.sld (pc := 517) (k := 3) hK hS (by decide) (by omega) hL4 dL_law_517 ?_
  refine V.cV (pc := 518) (ci := 11) hK (c_X11_judged E hL N _ _ _ _ hx) Y_X11_judged cv_RL_51 (by decide) rfl (hL.1 0 _ ls_0) dL_law_518 (by decide) rfl (Nat.le_of_ble_eq_true rfl) ?_
  refine V.aload_n (pc := 521) (i := 2) hK rfl ⟨_, rfl⟩ dL_law_521 ?_
  refine V.aload_n (pc := 522) (i := 0) hK rfl ⟨_, rfl⟩ dL_law_522 ?_
  refine V.iload_n (pc := 523) (i := 3) hK rfl dL_law_523 ?_
  refine V.iconst (pc := 524) (v := 1) hK (by decide) dL_law_524 ?_
  refine V.iadd (pc := 525) hK dL_law_525 ?_
  refine V.sld (pc := 526) (k := 1) hK hS (by decide) (by omega) hL4 dL_law_526 ?_
  refine V.aload_n (pc := 527) (i := 0) hK rfl ⟨_, rfl⟩ dL_law_527 ?_
  refine V.iload_n (pc := 528) (i := 3) hK rfl dL_law_528 ?_
  refine V.iconst (pc := 529) (v := 2) hK (by decide) dL_law_529 ?_
  refine V.iadd (pc := 530) hK dL_law_530 ?_
  refine V.sld (pc := 531) (k := 2) hK hS (by decide) (by omega) hL4 dL_law_531 ?_
  refine V.aload_n (pc := 532) (i := 0) hK rfl ⟨_, rfl⟩ dL_law_532 ?_
  refine V.iload_n (pc := 533) (i := 3) hK rfl dL_law_533 ?_
  refine V.iconst (pc := 534) (v := 3) hK (by decide) dL_law_534 ?_
  refine V.iadd (pc := 535) hK dL_law_535 ?_
  refine V.sld (pc := 536) (k := 3) hK hS (by decide) (by omega) hL4 dL_law_536 ?_
  refine V.cV (pc := 537) (ci := 12) hK (c_X12_judged E hL N _ _ _ _ hm) Y_X12_judged cv_RL_54 (by decide) rfl (hL.1 79 _ ls_79) dL_law_537 (by decide) rfl (Nat.le_of_ble_eq_true rfl) ?_
  exact V.icmp_eq (pc := 540) (tgt := 1632) hK dL_law_540 (by decide) (fun _ => kk) (fun c => absurd rfl c)
set_option maxHeartbeats 4000000 in
set_option maxRecDepth 100000 in
theorem law_9 {E : v_E} {X : v_X} {bb L i : Nat} {xs : Nat → Int32} (hK : v_K E X cL_law RL 4 1300) (hS : v_Sc E X bb L xs) (hL4 : L ≤ 4096) (hi : i + 8 ≤ L) {b1 b2 : Nat} {sh : v_S} {P : v_P} {M M1 M2 : v_M} (hL : v_Lay sh P) {N : Nat} {r : Int32} (hx : f_X11_tried N (xs (i + 1)) (xs (i + 2)) (xs (i + 3)) (xs (i + 4)) (xs (i + 5)) (xs (i + 6)) (xs (i + 7)) M = some (r, M1)) (hm : f_X12_tried N (xs (i + 1)) (xs (i + 2)) (xs (i + 3)) (xs (i + 4)) (xs (i + 5)) (xs (i + 6)) (xs (i + 7)) M1 = some (r, M2)) (kk : V E X (b1, b2) 1632 [(0, .ref bb), (1, v_rf E 0), (2, v_rf E 79), (3, .int (nI i))] [] sh P M2) : V E X (b1 + 7, b2 + 1967) 545 [(0, .ref bb), (1, v_rf E 0), (2, v_rf E 79), (3, .int (nI i))] [] sh P M := by
  refine V.bud (b1, b2) ⟨Nat.le_add_right _ _, Nat.le_add_right _ _⟩ ?_
  refine V.aload_n (pc := 545) (i := 1) hK rfl ⟨_, rfl⟩ dL_law_545 ?_
  refine V.aload_n (pc := 546) (i := 0) hK rfl ⟨_, rfl⟩ dL_law_546 ?_
  refine V.iload_n (pc := 547) (i := 3) hK rfl dL_law_547 ?_
  refine V.iconst (pc := 548) (v := 1) hK (by decide) dL_law_548 ?_
  refine V.iadd (pc := 549) hK dL_law_549 ?_
  refine V.sld (pc := 550) (k := 1) hK hS (by decide) (by omega) hL4 dL_law_550 ?_
  refine V.aload_n (pc := 551) (i := 0) hK rfl ⟨_, rfl⟩ dL_law_551 ?_
  refine V.iload_n (pc := 552) (i := 3) hK rfl dL_law_552 ?_
  refine V.iconst (pc := 553) (v := 2) hK (by decide) dL_law_553 ?_
  refine V.iadd (pc := 554) hK dL_law_554 ?_
  refine V.sld (pc := 555) (k := 2) hK hS (by decide) (by omega) hL4 dL_law_555 ?_
  refine V.aload_n (pc := 556) (i := 0) hK rfl ⟨_, rfl⟩ dL_law_556 ?_
  refine V.iload_n (pc := 557) (i := 3) hK rfl dL_law_557 ?_
  refine V.iconst (pc := 558) (v := 3) hK (by decide) dL_law_558 ?_
  refine V.iadd (pc := 559) hK dL_law_559 ?_
  refine V.sld (pc := 560) (k := 3) hK hS (by decide) (by omega) hL4 dL_law_560 ?_
  refine V.aload_n (pc := 561) (i := 0) hK rfl ⟨_, rfl⟩ dL_law_561 ?_
  refine V.iload_n (pc := 562) (i := 3) hK rfl dL_law_562 ?_
  refine V.iconst (pc := 563) (v := 4) hK (by decide) dL_law_563 ?_
  refine V.iadd (pc := 564) hK dL_law_564 ?_
  refine V.sld (pc := 565) (k := 4) hK hS (by decide) (by omega) hL4 dL_law_565 ?_
  refine V.aload_n (pc := 566) (i := 0) hK rfl ⟨_, rfl⟩ dL_law_566 ?_
  refine V.iload_n (pc := 567) (i := 3) hK rfl dL_law_567 ?_
  refine V.iconst (pc := 568) (v := 5) hK (by decide) dL_law_568 ?_
  refine V.iadd (pc := 569) hK dL_law_569 ?_
  refine V.sld (pc := 570) (k := 5) hK hS (by decide) (by omega) hL4 dL_law_570 ?_
  refine V.aload_n (pc := 571) (i := 0) hK rfl ⟨_, rfl⟩ dL_law_571 ?_
  refine V.iload_n (pc := 572) (i := 3) hK rfl dL_law_572 ?_
  refine V.bipush (pc := 573) (v := 6) hK (by decide) dL_law_573 ?_
  refine V.iadd (pc := 575) hK dL_law_575 ?_
  refine V.sld (pc := 576) (k := 6) hK hS (by decide) (by omega) hL4 dL_law_576 ?_
  refine V.aload_n (pc := 577) (i := 0) hK rfl ⟨_, rfl⟩ dL_law_577 ?_
  refine V.iload_n (pc := 578) (i := 3) hK rfl dL_law_578 ?_
  refine V.bipush (pc := 579) (v := 7) hK (by decide) dL_law_579 ?_
  refine V.iadd (pc := 581) hK dL_law_581 ?_
  refine V.sld (pc := 582) (k := 7) hK hS (by decide) (by omega) hL4 dL_law_582 ?_
  refine V.cV (pc := 583) (ci := 11) hK (c_X11_tried E hL N _ _ _ _ _ _ _ _ hx) Y_X11_tried cv_RL_55 (by decide) rfl (hL.1 0 _ ls_0) dL_law_583 (by decide) rfl (Nat.le_of_ble_eq_true rfl) ?_
  refine V.aload_n (pc := 586) (i := 2) hK rfl ⟨_, rfl⟩ dL_law_586 ?_
  refine V.aload_n (pc := 587) (i := 0) hK rfl ⟨_, rfl⟩ dL_law_587 ?_
  refine V.iload_n (pc := 588) (i := 3) hK rfl dL_law_588 ?_
  refine V.iconst (pc := 589) (v := 1) hK (by decide) dL_law_589 ?_
  refine V.iadd (pc := 590) hK dL_law_590 ?_
  refine V.sld (pc := 591) (k := 1) hK hS (by decide) (by omega) hL4 dL_law_591 ?_
  refine V.aload_n (pc := 592) (i := 0) hK rfl ⟨_, rfl⟩ dL_law_592 ?_
  refine V.iload_n (pc := 593) (i := 3) hK rfl dL_law_593 ?_
  refine V.iconst (pc := 594) (v := 2) hK (by decide) dL_law_594 ?_
  refine V.iadd (pc := 595) hK dL_law_595 ?_
  refine V.sld (pc := 596) (k := 2) hK hS (by decide) (by omega) hL4 dL_law_596 ?_
  refine V.aload_n (pc := 597) (i := 0) hK rfl ⟨_, rfl⟩ dL_law_597 ?_
  refine V.iload_n (pc := 598) (i := 3) hK rfl dL_law_598 ?_
  refine V.iconst (pc := 599) (v := 3) hK (by decide) dL_law_599 ?_
  refine V.iadd (pc := 600) hK dL_law_600 ?_
  refine V.sld (pc := 601) (k := 3) hK hS (by decide) (by omega) hL4 dL_law_601 ?_
  refine V.aload_n (pc := 602) (i := 0) hK rfl ⟨_, rfl⟩ dL_law_602 ?_
  refine V.iload_n (pc := 603) (i := 3) hK rfl dL_law_603 ?_
  refine V.iconst (pc := 604) (v := 4) hK (by decide) dL_law_604 ?_
  refine V.iadd (pc := 605) hK dL_law_605 ?_
  refine V.sld (pc := 606) (k := 4) hK hS (by decide) (by omega) hL4 dL_law_606 ?_
  refine V.aload_n (pc := 607) (i := 0) hK rfl ⟨_, rfl⟩ dL_law_607 ?_
  refine V.iload_n (pc := 608) (i := 3) hK rfl dL_law_608 ?_
  refine V.iconst (pc := 609) (v := 5) hK (by decide) dL_law_609 ?_
  refine V.iadd (pc := 610) hK dL_law_610 ?_
  refine V.sld (pc := 611) (k := 5) hK hS (by decide) (by omega) hL4 dL_law_611 ?_
  refine V.aload_n (pc := 612) (i := 0) hK rfl ⟨_, rfl⟩ dL_law_612 ?_
  refine V.iload_n (pc := 613) (i := 3) hK rfl dL_law_613 ?_
  refine V.bipush (pc := 614) (v := 6) hK (by decide) dL_law_614 ?_
  refine V.iadd (pc := 616) hK dL_law_616 ?_
  refine V.sld (pc := 617) (k := 6) hK hS (by decide) (by omega) hL4 dL_law_617 ?_
  refine V.aload_n (pc := 618) (i := 0) hK rfl ⟨_, rfl⟩ dL_law_618 ?_
  refine V.iload_n (pc := 619) (i := 3) hK rfl dL_law_619 ?_
  refine V.bipush (pc := 620) (v := 7) hK (by decide) dL_law_620 ?_
  refine V.iadd (pc := 622) hK dL_law_622 ?_
  refine V.sld (pc := 623) (k := 7) hK hS (by decide) (by omega) hL4 dL_law_623 ?_
  refine V.cV (pc := 624) (ci := 12) hK (c_X12_tried E hL N _ _ _ _ _ _ _ _ hm) Y_X12_tried cv_RL_58 (by decide) rfl (hL.1 79 _ ls_79) dL_law_624 (by decide) rfl (Nat.le_of_ble_eq_true rfl) ?_
  exact V.icmp_eq (pc := 627) (tgt := 1632) hK dL_law_627 (by decide) (fun _ => kk) (fun c => absurd rfl c)
set_option maxHeartbeats 4000000 in
set_option maxRecDepth 100000 in
theorem law_10 {E : v_E} {X : v_X} {bb L i : Nat} {xs : Nat → Int32} (hK : v_K E X cL_law RL 4 1300) (hS : v_Sc E X bb L xs) (hL4 : L ≤ 4096) (hi : i + 8 ≤ L) {b1 b2 : Nat} {sh : v_S} {P : v_P} {M M1 M2 : v_M} (hL : v_Lay sh P) {N : Nat} {r : Int32} (hx : f_X11_change N (xs (i + 1)) (xs (i + 2)) (xs (i + 3)) (xs (i + 4)) (xs (i + 5)) M = some (r, M1)) (hm : f_X12_change N (xs (i + 1)) (xs (i + 2)) (xs (i + 3)) (xs (i + 4)) (xs (i + 5)) M1 = some (r, M2)) (kk : V E X (b1, b2) 1632 [(0, .ref bb), (1, v_rf E 0), (2, v_rf E 79), (3, .int (nI i))] [] sh P M2) : V E X (b1 + 7, b2 + 1967) 632 [(0, .ref bb), (1, v_rf E 0), (2, v_rf E 79), (3, .int (nI i))] [] sh P M := by
  refine V.bud (b1, b2) ⟨Nat.le_add_right _ _, Nat.le_add_right _ _⟩ ?_
  refine V.aload_n (pc := 632) (i := 1) hK rfl ⟨_, rfl⟩ dL_law_632 ?_
  refine V.aload_n (pc := 633) (i := 0) hK rfl ⟨_, rfl⟩ dL_law_633 ?_
  refine V.iload_n (pc := 634) (i := 3) hK rfl dL_law_634 ?_
  refine V.iconst (pc := 635) (v := 1) hK (by decide) dL_law_635 ?_
  refine V.iadd (pc := 636) hK dL_law_636 ?_
  refine V.sld (pc := 637) (k := 1) hK hS (by decide) (by omega) hL4 dL_law_637 ?_
  refine V.aload_n (pc := 638) (i := 0) hK rfl ⟨_, rfl⟩ dL_law_638 ?_
  refine V.iload_n (pc := 639) (i := 3) hK rfl dL_law_639 ?_
  refine V.iconst (pc := 640) (v := 2) hK (by decide) dL_law_640 ?_
  refine V.iadd (pc := 641) hK dL_law_641 ?_
  refine V.sld (pc := 642) (k := 2) hK hS (by decide) (by omega) hL4 dL_law_642 ?_
  refine V.aload_n (pc := 643) (i := 0) hK rfl ⟨_, rfl⟩ dL_law_643 ?_
  refine V.iload_n (pc := 644) (i := 3) hK rfl dL_law_644 ?_
  refine V.iconst (pc := 645) (v := 3) hK (by decide) dL_law_645 ?_
  refine V.iadd (pc := 646) hK dL_law_646 ?_
  refine V.sld (pc := 647) (k := 3) hK hS (by decide) (by omega) hL4 dL_law_647 ?_
  refine V.aload_n (pc := 648) (i := 0) hK rfl ⟨_, rfl⟩ dL_law_648 ?_
  refine V.iload_n (pc := 649) (i := 3) hK rfl dL_law_649 ?_
  refine V.iconst (pc := 650) (v := 4) hK (by decide) dL_law_650 ?_
  refine V.iadd (pc := 651) hK dL_law_651 ?_
  refine V.sld (pc := 652) (k := 4) hK hS (by decide) (by omega) hL4 dL_law_652 ?_
  refine V.aload_n (pc := 653) (i := 0) hK rfl ⟨_, rfl⟩ dL_law_653 ?_
  refine V.iload_n (pc := 654) (i := 3) hK rfl dL_law_654 ?_
  refine V.iconst (pc := 655) (v := 5) hK (by decide) dL_law_655 ?_
  refine V.iadd (pc := 656) hK dL_law_656 ?_
  refine V.sld (pc := 657) (k := 5) hK hS (by decide) (by omega) hL4 dL_law_657 ?_
  refine V.cV (pc := 658) (ci := 11) hK (c_X11_change E hL N _ _ _ _ _ _ hx) Y_X11_change cv_RL_59 (by decide) rfl (hL.1 0 _ ls_0) dL_law_658 (by decide) rfl (Nat.le_of_ble_eq_true rfl) ?_
  refine V.aload_n (pc := 661) (i := 2) hK rfl ⟨_, rfl⟩ dL_law_661 ?_
  refine V.aload_n (pc := 662) (i := 0) hK rfl ⟨_, rfl⟩ dL_law_662 ?_
  refine V.iload_n (pc := 663) (i := 3) hK rfl dL_law_663 ?_
  refine V.iconst (pc := 664) (v := 1) hK (by decide) dL_law_664 ?_
  refine V.iadd (pc := 665) hK dL_law_665 ?_
  refine V.sld (pc := 666) (k := 1) hK hS (by decide) (by omega) hL4 dL_law_666 ?_
  refine V.aload_n (pc := 667) (i := 0) hK rfl ⟨_, rfl⟩ dL_law_667 ?_
  refine V.iload_n (pc := 668) (i := 3) hK rfl dL_law_668 ?_
  refine V.iconst (pc := 669) (v := 2) hK (by decide) dL_law_669 ?_
  refine V.iadd (pc := 670) hK dL_law_670 ?_
  refine V.sld (pc := 671) (k := 2) hK hS (by decide) (by omega) hL4 dL_law_671 ?_
  refine V.aload_n (pc := 672) (i := 0) hK rfl ⟨_, rfl⟩ dL_law_672 ?_
  refine V.iload_n (pc := 673) (i := 3) hK rfl dL_law_673 ?_
  refine V.iconst (pc := 674) (v := 3) hK (by decide) dL_law_674 ?_
  refine V.iadd (pc := 675) hK dL_law_675 ?_
  refine V.sld (pc := 676) (k := 3) hK hS (by decide) (by omega) hL4 dL_law_676 ?_
  refine V.aload_n (pc := 677) (i := 0) hK rfl ⟨_, rfl⟩ dL_law_677 ?_
  refine V.iload_n (pc := 678) (i := 3) hK rfl dL_law_678 ?_
  refine V.iconst (pc := 679) (v := 4) hK (by decide) dL_law_679 ?_
  refine V.iadd (pc := 680) hK dL_law_680 ?_
  refine V.sld (pc := 681) (k := 4) hK hS (by decide) (by omega) hL4 dL_law_681 ?_
  refine V.aload_n (pc := 682) (i := 0) hK rfl ⟨_, rfl⟩ dL_law_682 ?_
  refine V.iload_n (pc := 683) (i := 3) hK rfl dL_law_683 ?_
  refine V.iconst (pc := 684) (v := 5) hK (by decide) dL_law_684 ?_
  refine V.iadd (pc := 685) hK dL_law_685 ?_
  refine V.sld (pc := 686) (k := 5) hK hS (by decide) (by omega) hL4 dL_law_686 ?_
  refine V.cV (pc := 687) (ci := 12) hK (c_X12_change E hL N _ _ _ _ _ _ hm) Y_X12_change cv_RL_63 (by decide) rfl (hL.1 79 _ ls_79) dL_law_687 (by decide) rfl (Nat.le_of_ble_eq_true rfl) ?_
  exact V.icmp_eq (pc := 690) (tgt := 1632) hK dL_law_690 (by decide) (fun _ => kk) (fun c => absurd rfl c)
set_option maxHeartbeats 4000000 in
set_option maxRecDepth 100000 in
theorem law_11 {E : v_E} {X : v_X} {bb L i : Nat} {xs : Nat → Int32} (hK : v_K E X cL_law RL 4 1300) (hS : v_Sc E X bb L xs) (hL4 : L ≤ 4096) (hi : i + 8 ≤ L) {b1 b2 : Nat} {sh : v_S} {P : v_P} {M M1 M2 : v_M} (hL : v_Lay sh P) {N : Nat} {r : Int32} (hx : f_X11_cheapest N (xs (i + 1)) (xs (i + 2)) (xs (i + 3)) (xs (i + 4)) (xs (i + 5)) (xs (i + 6)) M = some (r, M1)) (hm : f_X12_cheapest N (xs (i + 1)) (xs (i + 2)) (xs (i + 3)) (xs (i + 4)) (xs (i + 5)) (xs (i + 6)) M1 = some (r, M2)) (kk : V E X (b1, b2) 1632 [(0, .ref bb), (1, v_rf E 0), (2, v_rf E 79), (3, .int (nI i))] [] sh P M2) : V E X (b1 + 7, b2 + 1967) 695 [(0, .ref bb), (1, v_rf E 0), (2, v_rf E 79), (3, .int (nI i))] [] sh P M := by
  refine V.bud (b1, b2) ⟨Nat.le_add_right _ _, Nat.le_add_right _ _⟩ ?_
  refine V.aload_n (pc := 695) (i := 1) hK rfl ⟨_, rfl⟩ dL_law_695 ?_
  refine V.aload_n (pc := 696) (i := 0) hK rfl ⟨_, rfl⟩ dL_law_696 ?_
  refine V.iload_n (pc := 697) (i := 3) hK rfl dL_law_697 ?_
  refine V.iconst (pc := 698) (v := 1) hK (by decide) dL_law_698 ?_
  refine V.iadd (pc := 699) hK dL_law_699 ?_
  refine V.sld (pc := 700) (k := 1) hK hS (by decide) (by omega) hL4 dL_law_700 ?_
  refine V.aload_n (pc := 701) (i := 0) hK rfl ⟨_, rfl⟩ dL_law_701 ?_
  refine V.iload_n (pc := 702) (i := 3) hK rfl dL_law_702 ?_
  refine V.iconst (pc := 703) (v := 2) hK (by decide) dL_law_703 ?_
  refine V.iadd (pc := 704) hK dL_law_704 ?_
  refine V.sld (pc := 705) (k := 2) hK hS (by decide) (by omega) hL4 dL_law_705 ?_
  refine V.aload_n (pc := 706) (i := 0) hK rfl ⟨_, rfl⟩ dL_law_706 ?_
  refine V.iload_n (pc := 707) (i := 3) hK rfl dL_law_707 ?_
  refine V.iconst (pc := 708) (v := 3) hK (by decide) dL_law_708 ?_
  refine V.iadd (pc := 709) hK dL_law_709 ?_
  refine V.sld (pc := 710) (k := 3) hK hS (by decide) (by omega) hL4 dL_law_710 ?_
  refine V.aload_n (pc := 711) (i := 0) hK rfl ⟨_, rfl⟩ dL_law_711 ?_
  refine V.iload_n (pc := 712) (i := 3) hK rfl dL_law_712 ?_
  refine V.iconst (pc := 713) (v := 4) hK (by decide) dL_law_713 ?_
  refine V.iadd (pc := 714) hK dL_law_714 ?_
  refine V.sld (pc := 715) (k := 4) hK hS (by decide) (by omega) hL4 dL_law_715 ?_
  refine V.aload_n (pc := 716) (i := 0) hK rfl ⟨_, rfl⟩ dL_law_716 ?_
  refine V.iload_n (pc := 717) (i := 3) hK rfl dL_law_717 ?_
  refine V.iconst (pc := 718) (v := 5) hK (by decide) dL_law_718 ?_
  refine V.iadd (pc := 719) hK dL_law_719 ?_
  refine V.sld (pc := 720) (k := 5) hK hS (by decide) (by omega) hL4 dL_law_720 ?_
  refine V.aload_n (pc := 721) (i := 0) hK rfl ⟨_, rfl⟩ dL_law_721 ?_
  refine V.iload_n (pc := 722) (i := 3) hK rfl dL_law_722 ?_
  refine V.bipush (pc := 723) (v := 6) hK (by decide) dL_law_723 ?_
  refine V.iadd (pc := 725) hK dL_law_725 ?_
  refine V.sld (pc := 726) (k := 6) hK hS (by decide) (by omega) hL4 dL_law_726 ?_
  refine V.cV (pc := 727) (ci := 11) hK (c_X11_cheapest E hL N _ _ _ _ _ _ _ hx) Y_X11_cheapest cv_RL_64 (by decide) rfl (hL.1 0 _ ls_0) dL_law_727 (by decide) rfl (Nat.le_of_ble_eq_true rfl) ?_
  refine V.aload_n (pc := 730) (i := 2) hK rfl ⟨_, rfl⟩ dL_law_730 ?_
  refine V.aload_n (pc := 731) (i := 0) hK rfl ⟨_, rfl⟩ dL_law_731 ?_
  refine V.iload_n (pc := 732) (i := 3) hK rfl dL_law_732 ?_
  refine V.iconst (pc := 733) (v := 1) hK (by decide) dL_law_733 ?_
  refine V.iadd (pc := 734) hK dL_law_734 ?_
  refine V.sld (pc := 735) (k := 1) hK hS (by decide) (by omega) hL4 dL_law_735 ?_
  refine V.aload_n (pc := 736) (i := 0) hK rfl ⟨_, rfl⟩ dL_law_736 ?_
  refine V.iload_n (pc := 737) (i := 3) hK rfl dL_law_737 ?_
  refine V.iconst (pc := 738) (v := 2) hK (by decide) dL_law_738 ?_
  refine V.iadd (pc := 739) hK dL_law_739 ?_
  refine V.sld (pc := 740) (k := 2) hK hS (by decide) (by omega) hL4 dL_law_740 ?_
  refine V.aload_n (pc := 741) (i := 0) hK rfl ⟨_, rfl⟩ dL_law_741 ?_
  refine V.iload_n (pc := 742) (i := 3) hK rfl dL_law_742 ?_
  refine V.iconst (pc := 743) (v := 3) hK (by decide) dL_law_743 ?_
  refine V.iadd (pc := 744) hK dL_law_744 ?_
  refine V.sld (pc := 745) (k := 3) hK hS (by decide) (by omega) hL4 dL_law_745 ?_
  refine V.aload_n (pc := 746) (i := 0) hK rfl ⟨_, rfl⟩ dL_law_746 ?_
  refine V.iload_n (pc := 747) (i := 3) hK rfl dL_law_747 ?_
  refine V.iconst (pc := 748) (v := 4) hK (by decide) dL_law_748 ?_
  refine V.iadd (pc := 749) hK dL_law_749 ?_
  refine V.sld (pc := 750) (k := 4) hK hS (by decide) (by omega) hL4 dL_law_750 ?_
  refine V.aload_n (pc := 751) (i := 0) hK rfl ⟨_, rfl⟩ dL_law_751 ?_
  refine V.iload_n (pc := 752) (i := 3) hK rfl dL_law_752 ?_
  refine V.iconst (pc := 753) (v := 5) hK (by decide) dL_law_753 ?_
  refine V.iadd (pc := 754) hK dL_law_754 ?_
  refine V.sld (pc := 755) (k := 5) hK hS (by decide) (by omega) hL4 dL_law_755 ?_
  refine V.aload_n (pc := 756) (i := 0) hK rfl ⟨_, rfl⟩ dL_law_756 ?_
  refine V.iload_n (pc := 757) (i := 3) hK rfl dL_law_757 ?_
  refine V.bipush (pc := 758) (v := 6) hK (by decide) dL_law_758 ?_
  refine V.iadd (pc := 760) hK dL_law_760 ?_
  refine V.sld (pc := 761) (k := 6) hK hS (by decide) (by omega) hL4 dL_law_761 ?_
  refine V.cV (pc := 762) (ci := 12) hK (c_X12_cheapest E hL N _ _ _ _ _ _ _ hm) Y_X12_cheapest cv_RL_68 (by decide) rfl (hL.1 79 _ ls_79) dL_law_762 (by decide) rfl (Nat.le_of_ble_eq_true rfl) ?_
  exact V.icmp_eq (pc := 765) (tgt := 1632) hK dL_law_765 (by decide) (fun _ => kk) (fun c => absurd rfl c)
set_option maxHeartbeats 4000000 in
set_option maxRecDepth 100000 in
theorem law_12 {E : v_E} {X : v_X} {bb L i : Nat} {xs : Nat → Int32} (hK : v_K E X cL_law RL 4 1300) (hS : v_Sc E X bb L xs) (hL4 : L ≤ 4096) (hi : i + 8 ≤ L) {b1 b2 : Nat} {sh : v_S} {P : v_P} {M M1 M2 : v_M} (hL : v_Lay sh P) {N : Nat} {r : Int32} (hx : f_X11_goes N (xs (i + 1)) (xs (i + 2)) (xs (i + 3)) M = some (r, M1)) (hm : f_X12_goes N (xs (i + 1)) (xs (i + 2)) (xs (i + 3)) M1 = some (r, M2)) (kk : V E X (b1, b2) 1632 [(0, .ref bb), (1, v_rf E 0), (2, v_rf E 79), (3, .int (nI i))] [] sh P M2) : V E X (b1 + 7, b2 + 1967) 770 [(0, .ref bb), (1, v_rf E 0), (2, v_rf E 79), (3, .int (nI i))] [] sh P M := by
  refine V.bud (b1, b2) ⟨Nat.le_add_right _ _, Nat.le_add_right _ _⟩ ?_
  refine V.aload_n (pc := 770) (i := 1) hK rfl ⟨_, rfl⟩ dL_law_770 ?_
  refine V.aload_n (pc := 771) (i := 0) hK rfl ⟨_, rfl⟩ dL_law_771 ?_
  refine V.iload_n (pc := 772) (i := 3) hK rfl dL_law_772 ?_
  refine V.iconst (pc := 773) (v := 1) hK (by decide) dL_law_773 ?_
  refine V.iadd (pc := 774) hK dL_law_774 ?_
  refine V.sld (pc := 775) (k := 1) hK hS (by decide) (by omega) hL4 dL_law_775 ?_
  refine V.aload_n (pc := 776) (i := 0) hK rfl ⟨_, rfl⟩ dL_law_776 ?_
  refine V.iload_n (pc := 777) (i := 3) hK rfl dL_law_777 ?_
  refine V.iconst (pc := 778) (v := 2) hK (by decide) dL_law_778 ?_
  refine V.iadd (pc := 779) hK dL_law_779 ?_
  refine V.sld (pc := 780) (k := 2) hK hS (by decide) (by omega) hL4 dL_law_780 ?_
  refine V.aload_n (pc := 781) (i := 0) hK rfl ⟨_, rfl⟩ dL_law_781 ?_
  refine V.iload_n (pc := 782) (i := 3) hK rfl dL_law_782 ?_
  refine V.iconst (pc := 783) (v := 3) hK (by decide) dL_law_783 ?_
  refine V.iadd (pc := 784) hK dL_law_784 ?_
  refine V.sld (pc := 785) (k := 3) hK hS (by decide) (by omega) hL4 dL_law_785 ?_
  refine V.cV (pc := 786) (ci := 11) hK (c_X11_goes E hL N _ _ _ _ hx) Y_X11_goes cv_RL_69 (by decide) rfl (hL.1 0 _ ls_0) dL_law_786 (by decide) rfl (Nat.le_of_ble_eq_true rfl) ?_
  refine V.aload_n (pc := 789) (i := 2) hK rfl ⟨_, rfl⟩ dL_law_789 ?_
  refine V.aload_n (pc := 790) (i := 0) hK rfl ⟨_, rfl⟩ dL_law_790 ?_
  refine V.iload_n (pc := 791) (i := 3) hK rfl dL_law_791 ?_
  refine V.iconst (pc := 792) (v := 1) hK (by decide) dL_law_792 ?_
  refine V.iadd (pc := 793) hK dL_law_793 ?_
  refine V.sld (pc := 794) (k := 1) hK hS (by decide) (by omega) hL4 dL_law_794 ?_
  refine V.aload_n (pc := 795) (i := 0) hK rfl ⟨_, rfl⟩ dL_law_795 ?_
  refine V.iload_n (pc := 796) (i := 3) hK rfl dL_law_796 ?_
  refine V.iconst (pc := 797) (v := 2) hK (by decide) dL_law_797 ?_
  refine V.iadd (pc := 798) hK dL_law_798 ?_
  refine V.sld (pc := 799) (k := 2) hK hS (by decide) (by omega) hL4 dL_law_799 ?_
  refine V.aload_n (pc := 800) (i := 0) hK rfl ⟨_, rfl⟩ dL_law_800 ?_
  refine V.iload_n (pc := 801) (i := 3) hK rfl dL_law_801 ?_
  refine V.iconst (pc := 802) (v := 3) hK (by decide) dL_law_802 ?_
  refine V.iadd (pc := 803) hK dL_law_803 ?_
  refine V.sld (pc := 804) (k := 3) hK hS (by decide) (by omega) hL4 dL_law_804 ?_
  refine V.cV (pc := 805) (ci := 12) hK (c_X12_goes E hL N _ _ _ _ hm) Y_X12_goes cv_RL_72 (by decide) rfl (hL.1 79 _ ls_79) dL_law_805 (by decide) rfl (Nat.le_of_ble_eq_true rfl) ?_
  exact V.icmp_eq (pc := 808) (tgt := 1632) hK dL_law_808 (by decide) (fun _ => kk) (fun c => absurd rfl c)
set_option maxHeartbeats 4000000 in
set_option maxRecDepth 100000 in
theorem law_13 {E : v_E} {X : v_X} {bb L i : Nat} {xs : Nat → Int32} (hK : v_K E X cL_law RL 4 1300) (hS : v_Sc E X bb L xs) (hL4 : L ≤ 4096) (hi : i + 8 ≤ L) {b1 b2 : Nat} {sh : v_S} {P : v_P} {M M1 M2 : v_M} (hL : v_Lay sh P) {N : Nat} {r : Int32} (hx : f_X11_floor N (xs (i + 1)) (xs (i + 2)) (xs (i + 3)) (xs (i + 4)) (xs (i + 5)) (xs (i + 6)) (xs (i + 7)) M = some (r, M1)) (hm : f_X12_floor N (xs (i + 1)) (xs (i + 2)) (xs (i + 3)) (xs (i + 4)) (xs (i + 5)) (xs (i + 6)) (xs (i + 7)) M1 = some (r, M2)) (kk : V E X (b1, b2) 1632 [(0, .ref bb), (1, v_rf E 0), (2, v_rf E 79), (3, .int (nI i))] [] sh P M2) : V E X (b1 + 7, b2 + 1967) 813 [(0, .ref bb), (1, v_rf E 0), (2, v_rf E 79), (3, .int (nI i))] [] sh P M := by
  refine V.bud (b1, b2) ⟨Nat.le_add_right _ _, Nat.le_add_right _ _⟩ ?_
  refine V.aload_n (pc := 813) (i := 1) hK rfl ⟨_, rfl⟩ dL_law_813 ?_
  refine V.aload_n (pc := 814) (i := 0) hK rfl ⟨_, rfl⟩ dL_law_814 ?_
  refine V.iload_n (pc := 815) (i := 3) hK rfl dL_law_815 ?_
  refine V.iconst (pc := 816) (v := 1) hK (by decide) dL_law_816 ?_
  refine V.iadd (pc := 817) hK dL_law_817 ?_
  refine V.sld (pc := 818) (k := 1) hK hS (by decide) (by omega) hL4 dL_law_818 ?_
  refine V.aload_n (pc := 819) (i := 0) hK rfl ⟨_, rfl⟩ dL_law_819 ?_
  refine V.iload_n (pc := 820) (i := 3) hK rfl dL_law_820 ?_
  refine V.iconst (pc := 821) (v := 2) hK (by decide) dL_law_821 ?_
  refine V.iadd (pc := 822) hK dL_law_822 ?_
  refine V.sld (pc := 823) (k := 2) hK hS (by decide) (by omega) hL4 dL_law_823 ?_
  refine V.aload_n (pc := 824) (i := 0) hK rfl ⟨_, rfl⟩ dL_law_824 ?_
  refine V.iload_n (pc := 825) (i := 3) hK rfl dL_law_825 ?_
  refine V.iconst (pc := 826) (v := 3) hK (by decide) dL_law_826 ?_
  refine V.iadd (pc := 827) hK dL_law_827 ?_
  refine V.sld (pc := 828) (k := 3) hK hS (by decide) (by omega) hL4 dL_law_828 ?_
  refine V.aload_n (pc := 829) (i := 0) hK rfl ⟨_, rfl⟩ dL_law_829 ?_
  refine V.iload_n (pc := 830) (i := 3) hK rfl dL_law_830 ?_
  refine V.iconst (pc := 831) (v := 4) hK (by decide) dL_law_831 ?_
  refine V.iadd (pc := 832) hK dL_law_832 ?_
  refine V.sld (pc := 833) (k := 4) hK hS (by decide) (by omega) hL4 dL_law_833 ?_
  refine V.aload_n (pc := 834) (i := 0) hK rfl ⟨_, rfl⟩ dL_law_834 ?_
  refine V.iload_n (pc := 835) (i := 3) hK rfl dL_law_835 ?_
  refine V.iconst (pc := 836) (v := 5) hK (by decide) dL_law_836 ?_
  refine V.iadd (pc := 837) hK dL_law_837 ?_
  refine V.sld (pc := 838) (k := 5) hK hS (by decide) (by omega) hL4 dL_law_838 ?_
  refine V.aload_n (pc := 839) (i := 0) hK rfl ⟨_, rfl⟩ dL_law_839 ?_
  refine V.iload_n (pc := 840) (i := 3) hK rfl dL_law_840 ?_
  refine V.bipush (pc := 841) (v := 6) hK (by decide) dL_law_841 ?_
  refine V.iadd (pc := 843) hK dL_law_843 ?_
  refine V.sld (pc := 844) (k := 6) hK hS (by decide) (by omega) hL4 dL_law_844 ?_
  refine V.aload_n (pc := 845) (i := 0) hK rfl ⟨_, rfl⟩ dL_law_845 ?_
  refine V.iload_n (pc := 846) (i := 3) hK rfl dL_law_846 ?_
  refine V.bipush (pc := 847) (v := 7) hK (by decide) dL_law_847 ?_
  refine V.iadd (pc := 849) hK dL_law_849 ?_
  refine V.sld (pc := 850) (k := 7) hK hS (by decide) (by omega) hL4 dL_law_850 ?_
  refine V.cV (pc := 851) (ci := 11) hK (c_X11_floor E hL N _ _ _ _ _ _ _ _ hx) Y_X11_floor cv_RL_73 (by decide) rfl (hL.1 0 _ ls_0) dL_law_851 (by decide) rfl (Nat.le_of_ble_eq_true rfl) ?_
  refine V.aload_n (pc := 854) (i := 2) hK rfl ⟨_, rfl⟩ dL_law_854 ?_
  refine V.aload_n (pc := 855) (i := 0) hK rfl ⟨_, rfl⟩ dL_law_855 ?_
  refine V.iload_n (pc := 856) (i := 3) hK rfl dL_law_856 ?_
  refine V.iconst (pc := 857) (v := 1) hK (by decide) dL_law_857 ?_
  refine V.iadd (pc := 858) hK dL_law_858 ?_
  refine V.sld (pc := 859) (k := 1) hK hS (by decide) (by omega) hL4 dL_law_859 ?_
  refine V.aload_n (pc := 860) (i := 0) hK rfl ⟨_, rfl⟩ dL_law_860 ?_
  refine V.iload_n (pc := 861) (i := 3) hK rfl dL_law_861 ?_
  refine V.iconst (pc := 862) (v := 2) hK (by decide) dL_law_862 ?_
  refine V.iadd (pc := 863) hK dL_law_863 ?_
  refine V.sld (pc := 864) (k := 2) hK hS (by decide) (by omega) hL4 dL_law_864 ?_
  refine V.aload_n (pc := 865) (i := 0) hK rfl ⟨_, rfl⟩ dL_law_865 ?_
  refine V.iload_n (pc := 866) (i := 3) hK rfl dL_law_866 ?_
  refine V.iconst (pc := 867) (v := 3) hK (by decide) dL_law_867 ?_
  refine V.iadd (pc := 868) hK dL_law_868 ?_
  refine V.sld (pc := 869) (k := 3) hK hS (by decide) (by omega) hL4 dL_law_869 ?_
  refine V.aload_n (pc := 870) (i := 0) hK rfl ⟨_, rfl⟩ dL_law_870 ?_
  refine V.iload_n (pc := 871) (i := 3) hK rfl dL_law_871 ?_
  refine V.iconst (pc := 872) (v := 4) hK (by decide) dL_law_872 ?_
  refine V.iadd (pc := 873) hK dL_law_873 ?_
  refine V.sld (pc := 874) (k := 4) hK hS (by decide) (by omega) hL4 dL_law_874 ?_
  refine V.aload_n (pc := 875) (i := 0) hK rfl ⟨_, rfl⟩ dL_law_875 ?_
  refine V.iload_n (pc := 876) (i := 3) hK rfl dL_law_876 ?_
  refine V.iconst (pc := 877) (v := 5) hK (by decide) dL_law_877 ?_
  refine V.iadd (pc := 878) hK dL_law_878 ?_
  refine V.sld (pc := 879) (k := 5) hK hS (by decide) (by omega) hL4 dL_law_879 ?_
  refine V.aload_n (pc := 880) (i := 0) hK rfl ⟨_, rfl⟩ dL_law_880 ?_
  refine V.iload_n (pc := 881) (i := 3) hK rfl dL_law_881 ?_
  refine V.bipush (pc := 882) (v := 6) hK (by decide) dL_law_882 ?_
  refine V.iadd (pc := 884) hK dL_law_884 ?_
  refine V.sld (pc := 885) (k := 6) hK hS (by decide) (by omega) hL4 dL_law_885 ?_
  refine V.aload_n (pc := 886) (i := 0) hK rfl ⟨_, rfl⟩ dL_law_886 ?_
  refine V.iload_n (pc := 887) (i := 3) hK rfl dL_law_887 ?_
  refine V.bipush (pc := 888) (v := 7) hK (by decide) dL_law_888 ?_
  refine V.iadd (pc := 890) hK dL_law_890 ?_
  refine V.sld (pc := 891) (k := 7) hK hS (by decide) (by omega) hL4 dL_law_891 ?_
  refine V.cV (pc := 892) (ci := 12) hK (c_X12_floor E hL N _ _ _ _ _ _ _ _ hm) Y_X12_floor cv_RL_76 (by decide) rfl (hL.1 79 _ ls_79) dL_law_892 (by decide) rfl (Nat.le_of_ble_eq_true rfl) ?_
  exact V.icmp_eq (pc := 895) (tgt := 1632) hK dL_law_895 (by decide) (fun _ => kk) (fun c => absurd rfl c)
set_option maxHeartbeats 4000000 in
set_option maxRecDepth 100000 in
theorem law_14 {E : v_E} {X : v_X} {bb L i : Nat} {xs : Nat → Int32} (hK : v_K E X cL_law RL 4 1300) (hS : v_Sc E X bb L xs) (hL4 : L ≤ 4096) (hi : i + 8 ≤ L) {b1 b2 : Nat} {sh : v_S} {P : v_P} {M M1 M2 : v_M} (hL : v_Lay sh P) {N : Nat} {r : Int32} (hx : f_X11_feed N (xs (i + 1)) (xs (i + 2)) (xs (i + 3)) (xs (i + 4)) (xs (i + 5)) M = some (r, M1)) (hm : f_X12_feed N (xs (i + 1)) (xs (i + 2)) (xs (i + 3)) (xs (i + 4)) (xs (i + 5)) M1 = some (r, M2)) (kk : V E X (b1, b2) 1632 [(0, .ref bb), (1, v_rf E 0), (2, v_rf E 79), (3, .int (nI i))] [] sh P M2) : V E X (b1 + 7, b2 + 1967) 900 [(0, .ref bb), (1, v_rf E 0), (2, v_rf E 79), (3, .int (nI i))] [] sh P M := by
  refine V.bud (b1, b2) ⟨Nat.le_add_right _ _, Nat.le_add_right _ _⟩ ?_
  refine V.aload_n (pc := 900) (i := 1) hK rfl ⟨_, rfl⟩ dL_law_900 ?_
  refine V.aload_n (pc := 901) (i := 0) hK rfl ⟨_, rfl⟩ dL_law_901 ?_
  refine V.iload_n (pc := 902) (i := 3) hK rfl dL_law_902 ?_
  refine V.iconst (pc := 903) (v := 1) hK (by decide) dL_law_903 ?_
  refine V.iadd (pc := 904) hK dL_law_904 ?_
  refine V.sld (pc := 905) (k := 1) hK hS (by decide) (by omega) hL4 dL_law_905 ?_
  refine V.aload_n (pc := 906) (i := 0) hK rfl ⟨_, rfl⟩ dL_law_906 ?_
  refine V.iload_n (pc := 907) (i := 3) hK rfl dL_law_907 ?_
  refine V.iconst (pc := 908) (v := 2) hK (by decide) dL_law_908 ?_
  refine V.iadd (pc := 909) hK dL_law_909 ?_
  refine V.sld (pc := 910) (k := 2) hK hS (by decide) (by omega) hL4 dL_law_910 ?_
  refine V.aload_n (pc := 911) (i := 0) hK rfl ⟨_, rfl⟩ dL_law_911 ?_
  refine V.iload_n (pc := 912) (i := 3) hK rfl dL_law_912 ?_
  refine V.iconst (pc := 913) (v := 3) hK (by decide) dL_law_913 ?_
  refine V.iadd (pc := 914) hK dL_law_914 ?_
  refine V.sld (pc := 915) (k := 3) hK hS (by decide) (by omega) hL4 dL_law_915 ?_
  refine V.aload_n (pc := 916) (i := 0) hK rfl ⟨_, rfl⟩ dL_law_916 ?_
  refine V.iload_n (pc := 917) (i := 3) hK rfl dL_law_917 ?_
  refine V.iconst (pc := 918) (v := 4) hK (by decide) dL_law_918 ?_
  refine V.iadd (pc := 919) hK dL_law_919 ?_
  refine V.sld (pc := 920) (k := 4) hK hS (by decide) (by omega) hL4 dL_law_920 ?_
  refine V.aload_n (pc := 921) (i := 0) hK rfl ⟨_, rfl⟩ dL_law_921 ?_
  refine V.iload_n (pc := 922) (i := 3) hK rfl dL_law_922 ?_
  refine V.iconst (pc := 923) (v := 5) hK (by decide) dL_law_923 ?_
  refine V.iadd (pc := 924) hK dL_law_924 ?_
  refine V.sld (pc := 925) (k := 5) hK hS (by decide) (by omega) hL4 dL_law_925 ?_
  refine V.cV (pc := 926) (ci := 11) hK (c_X11_feed E hL N _ _ _ _ _ _ hx) Y_X11_feed cv_RL_77 (by decide) rfl (hL.1 0 _ ls_0) dL_law_926 (by decide) rfl (Nat.le_of_ble_eq_true rfl) ?_
  refine V.aload_n (pc := 929) (i := 2) hK rfl ⟨_, rfl⟩ dL_law_929 ?_
  refine V.aload_n (pc := 930) (i := 0) hK rfl ⟨_, rfl⟩ dL_law_930 ?_
  refine V.iload_n (pc := 931) (i := 3) hK rfl dL_law_931 ?_
  refine V.iconst (pc := 932) (v := 1) hK (by decide) dL_law_932 ?_
  refine V.iadd (pc := 933) hK dL_law_933 ?_
  refine V.sld (pc := 934) (k := 1) hK hS (by decide) (by omega) hL4 dL_law_934 ?_
  refine V.aload_n (pc := 935) (i := 0) hK rfl ⟨_, rfl⟩ dL_law_935 ?_
  refine V.iload_n (pc := 936) (i := 3) hK rfl dL_law_936 ?_
  refine V.iconst (pc := 937) (v := 2) hK (by decide) dL_law_937 ?_
  refine V.iadd (pc := 938) hK dL_law_938 ?_
  refine V.sld (pc := 939) (k := 2) hK hS (by decide) (by omega) hL4 dL_law_939 ?_
  refine V.aload_n (pc := 940) (i := 0) hK rfl ⟨_, rfl⟩ dL_law_940 ?_
  refine V.iload_n (pc := 941) (i := 3) hK rfl dL_law_941 ?_
  refine V.iconst (pc := 942) (v := 3) hK (by decide) dL_law_942 ?_
  refine V.iadd (pc := 943) hK dL_law_943 ?_
  refine V.sld (pc := 944) (k := 3) hK hS (by decide) (by omega) hL4 dL_law_944 ?_
  refine V.aload_n (pc := 945) (i := 0) hK rfl ⟨_, rfl⟩ dL_law_945 ?_
  refine V.iload_n (pc := 946) (i := 3) hK rfl dL_law_946 ?_
  refine V.iconst (pc := 947) (v := 4) hK (by decide) dL_law_947 ?_
  refine V.iadd (pc := 948) hK dL_law_948 ?_
  refine V.sld (pc := 949) (k := 4) hK hS (by decide) (by omega) hL4 dL_law_949 ?_
  refine V.aload_n (pc := 950) (i := 0) hK rfl ⟨_, rfl⟩ dL_law_950 ?_
  refine V.iload_n (pc := 951) (i := 3) hK rfl dL_law_951 ?_
  refine V.iconst (pc := 952) (v := 5) hK (by decide) dL_law_952 ?_
  refine V.iadd (pc := 953) hK dL_law_953 ?_
  refine V.sld (pc := 954) (k := 5) hK hS (by decide) (by omega) hL4 dL_law_954 ?_
  refine V.cV (pc := 955) (ci := 12) hK (c_X12_feed E hL N _ _ _ _ _ _ hm) Y_X12_feed cv_RL_80 (by decide) rfl (hL.1 79 _ ls_79) dL_law_955 (by decide) rfl (Nat.le_of_ble_eq_true rfl) ?_
  exact V.icmp_eq (pc := 958) (tgt := 1632) hK dL_law_958 (by decide) (fun _ => kk) (fun c => absurd rfl c)
set_option maxHeartbeats 4000000 in
set_option maxRecDepth 100000 in
theorem law_15 {E : v_E} {X : v_X} {bb L i : Nat} {xs : Nat → Int32} (hK : v_K E X cL_law RL 4 1300) (hS : v_Sc E X bb L xs) (hL4 : L ≤ 4096) (hi : i + 8 ≤ L) {b1 b2 : Nat} {sh : v_S} {P : v_P} {M M1 M2 : v_M} (hL : v_Lay sh P) {N : Nat} {r : Int32} (hx : f_X11_end N (xs (i + 1)) M = some (r, M1)) (hm : f_X12_end N (xs (i + 1)) M1 = some (r, M2)) (kk : V E X (b1, b2) 1632 [(0, .ref bb), (1, v_rf E 0), (2, v_rf E 79), (3, .int (nI i))] [] sh P M2) : V E X (b1 + 7, b2 + 1967) 963 [(0, .ref bb), (1, v_rf E 0), (2, v_rf E 79), (3, .int (nI i))] [] sh P M := by
  refine V.bud (b1, b2) ⟨Nat.le_add_right _ _, Nat.le_add_right _ _⟩ ?_
  refine V.aload_n (pc := 963) (i := 1) hK rfl ⟨_, rfl⟩ dL_law_963 ?_
  refine V.aload_n (pc := 964) (i := 0) hK rfl ⟨_, rfl⟩ dL_law_964 ?_
  refine V.iload_n (pc := 965) (i := 3) hK rfl dL_law_965 ?_
  refine V.iconst (pc := 966) (v := 1) hK (by decide) dL_law_966 ?_
  refine V.iadd (pc := 967) hK dL_law_967 ?_
  refine V.sld (pc := 968) (k := 1) hK hS (by decide) (by omega) hL4 dL_law_968 ?_
  refine V.cV (pc := 969) (ci := 11) hK (c_X11_end E hL N _ _ hx) Y_X11_end cv_RL_81 (by decide) rfl (hL.1 0 _ ls_0) dL_law_969 (by decide) rfl (Nat.le_of_ble_eq_true rfl) ?_
  refine V.aload_n (pc := 972) (i := 2) hK rfl ⟨_, rfl⟩ dL_law_972 ?_
  refine V.aload_n (pc := 973) (i := 0) hK rfl ⟨_, rfl⟩ dL_law_973 ?_
  refine V.iload_n (pc := 974) (i := 3) hK rfl dL_law_974 ?_
  refine V.iconst (pc := 975) (v := 1) hK (by decide) dL_law_975 ?_
  refine V.iadd (pc := 976) hK dL_law_976 ?_
  refine V.sld (pc := 977) (k := 1) hK hS (by decide) (by omega) hL4 dL_law_977 ?_
  refine V.cV (pc := 978) (ci := 12) hK (c_X12_end E hL N _ _ hm) Y_X12_end cv_RL_85 (by decide) rfl (hL.1 79 _ ls_79) dL_law_978 (by decide) rfl (Nat.le_of_ble_eq_true rfl) ?_
  exact V.icmp_eq (pc := 981) (tgt := 1632) hK dL_law_981 (by decide) (fun _ => kk) (fun c => absurd rfl c)
set_option maxHeartbeats 4000000 in
set_option maxRecDepth 100000 in
theorem law_16 {E : v_E} {X : v_X} {bb L i : Nat} {xs : Nat → Int32} (hK : v_K E X cL_law RL 4 1300) (hS : v_Sc E X bb L xs) (hL4 : L ≤ 4096) (hi : i + 8 ≤ L) {b1 b2 : Nat} {sh sh2 : v_S} {P P2 : v_P} {M M1 M2 : v_M} (hL : v_Lay sh P) (hL2 : v_Lay sh2 P2) {N qo : Nat} (hqo : v_Or sh P qo) (hro : P 35 1 = some qo) {r : Int32} (hx : f_X11_order N qo sh P (xs (i + 1)) (xs (i + 2)) M = some (r, (sh2, P2, M1))) (hm : f_X12_order N (xs (i + 1)) (xs (i + 2)) M1 = some (r, M2)) (kk : V E X (b1, b2) 1632 [(0, .ref bb), (1, v_rf E 0), (2, v_rf E 79), (3, .int (nI i))] [] sh2 P2 M2) : V E X (b1 + 7, b2 + 1967) 986 [(0, .ref bb), (1, v_rf E 0), (2, v_rf E 79), (3, .int (nI i))] [] sh P M := by
  refine V.aload_n (pc := 986) (i := 1) hK rfl ⟨_, rfl⟩ dL_law_986 ?_
  refine V.aload_n (pc := 987) (i := 0) hK rfl ⟨_, rfl⟩ dL_law_987 ?_
  refine V.iload_n (pc := 988) (i := 3) hK rfl dL_law_988 ?_
  refine V.iconst (pc := 989) (v := 1) hK (by decide) dL_law_989 ?_
  refine V.iadd (pc := 990) hK dL_law_990 ?_
  refine V.sld (pc := 991) (k := 1) hK hS (by decide) (by omega) hL4 dL_law_991 ?_
  refine V.aload_n (pc := 992) (i := 0) hK rfl ⟨_, rfl⟩ dL_law_992 ?_
  refine V.iload_n (pc := 993) (i := 3) hK rfl dL_law_993 ?_
  refine V.iconst (pc := 994) (v := 2) hK (by decide) dL_law_994 ?_
  refine V.iadd (pc := 995) hK dL_law_995 ?_
  refine V.sld (pc := 996) (k := 2) hK hS (by decide) (by omega) hL4 dL_law_996 ?_
  refine V.callV (pc := 997) (ci := 11) (mc := 7) (ms := 470) (rest := []) hK (c_X11_order E hL N qo hqo hro _ _ _ hx) Y_X11_order cv_RL_86 (by decide) rfl (hL.1 0 _ ls_0) dL_law_997 (by decide) rfl (Nat.le_of_ble_eq_true rfl) ⟨Nat.le_add_left _ _, Nat.le_trans (by decide) (Nat.le_add_left _ _)⟩ (fun v s p mm hv => ?_)
  obtain ⟨rfl, rfl, rfl, rfl⟩ := hv
  refine V.bud (b1, b2) ⟨by show b1 ≤ b1 + 7 - 7; omega, by show b2 ≤ b2 + 1967 - 470; omega⟩ ?_
  refine V.aload_n (pc := 1000) (i := 2) hK rfl ⟨_, rfl⟩ dL_law_1000 ?_
  refine V.aload_n (pc := 1001) (i := 0) hK rfl ⟨_, rfl⟩ dL_law_1001 ?_
  refine V.iload_n (pc := 1002) (i := 3) hK rfl dL_law_1002 ?_
  refine V.iconst (pc := 1003) (v := 1) hK (by decide) dL_law_1003 ?_
  refine V.iadd (pc := 1004) hK dL_law_1004 ?_
  refine V.sld (pc := 1005) (k := 1) hK hS (by decide) (by omega) hL4 dL_law_1005 ?_
  refine V.aload_n (pc := 1006) (i := 0) hK rfl ⟨_, rfl⟩ dL_law_1006 ?_
  refine V.iload_n (pc := 1007) (i := 3) hK rfl dL_law_1007 ?_
  refine V.iconst (pc := 1008) (v := 2) hK (by decide) dL_law_1008 ?_
  refine V.iadd (pc := 1009) hK dL_law_1009 ?_
  refine V.sld (pc := 1010) (k := 2) hK hS (by decide) (by omega) hL4 dL_law_1010 ?_
  refine V.cV (pc := 1011) (ci := 12) hK (c_X12_order E hL2 N _ _ _ hm) Y_X12_order cv_RL_89 (by decide) rfl (hL2.1 79 _ ls_79) dL_law_1011 (by decide) rfl (Nat.le_of_ble_eq_true rfl) ?_
  exact V.icmp_eq (pc := 1014) (tgt := 1632) hK dL_law_1014 (by decide) (fun _ => kk) (fun c => absurd rfl c)
set_option maxHeartbeats 4000000 in
set_option maxRecDepth 100000 in
theorem law_17 {E : v_E} {X : v_X} {bb L i : Nat} {xs : Nat → Int32} (hK : v_K E X cL_law RL 4 1300) (hS : v_Sc E X bb L xs) (hL4 : L ≤ 4096) (hi : i + 8 ≤ L) {b1 b2 : Nat} {sh : v_S} {P : v_P} {M M1 M2 : v_M} (hL : v_Lay sh P) (hPO : v_PO sh P) {N : Nat} {r : Int32} (hx : f_X11_takes N P (xs (i + 1)) (xs (i + 2)) (v_nb (xs (i + 3))) M = some (r, M1)) (hm : f_X12_takes__ N (xs (i + 1)) (xs (i + 2)) (v_nb (xs (i + 3))) M1 = some (r, M2)) (kk : V E X (b1, b2) 1632 [(0, .ref bb), (1, v_rf E 0), (2, v_rf E 79), (3, .int (nI i))] [] sh P M2) : V E X (b1 + 7, b2 + 1967) 1019 [(0, .ref bb), (1, v_rf E 0), (2, v_rf E 79), (3, .int (nI i))] [] sh P M := by
  refine V.bud (b1, b2) ⟨Nat.le_add_right _ _, Nat.le_add_right _ _⟩ ?_
  refine V.aload_n (pc := 1019) (i := 1) hK rfl ⟨_, rfl⟩ dL_law_1019 ?_
  refine V.aload_n (pc := 1020) (i := 0) hK rfl ⟨_, rfl⟩ dL_law_1020 ?_
  refine V.iload_n (pc := 1021) (i := 3) hK rfl dL_law_1021 ?_
  refine V.iconst (pc := 1022) (v := 1) hK (by decide) dL_law_1022 ?_
  refine V.iadd (pc := 1023) hK dL_law_1023 ?_
  refine V.sld (pc := 1024) (k := 1) hK hS (by decide) (by omega) hL4 dL_law_1024 ?_
  refine V.aload_n (pc := 1025) (i := 0) hK rfl ⟨_, rfl⟩ dL_law_1025 ?_
  refine V.iload_n (pc := 1026) (i := 3) hK rfl dL_law_1026 ?_
  refine V.iconst (pc := 1027) (v := 2) hK (by decide) dL_law_1027 ?_
  refine V.iadd (pc := 1028) hK dL_law_1028 ?_
  refine V.sld (pc := 1029) (k := 2) hK hS (by decide) (by omega) hL4 dL_law_1029 ?_
  refine V.aload_n (pc := 1030) (i := 0) hK rfl ⟨_, rfl⟩ dL_law_1030 ?_
  refine V.iload_n (pc := 1031) (i := 3) hK rfl dL_law_1031 ?_
  refine V.iconst (pc := 1032) (v := 3) hK (by decide) dL_law_1032 ?_
  refine V.iadd (pc := 1033) hK dL_law_1033 ?_
  refine V.sld (pc := 1034) (k := 3) hK hS (by decide) (by omega) hL4 dL_law_1034 ?_
  refine V.nb (pc := 1035) hK dL_law_1035 dL_law_1038 dL_law_1039 dL_law_1042 ?_
  refine V.cV (pc := 1043) (ci := 11) hK (c_X11_takes E hL N hPO _ _ _ _ hx) Y_X11_takes cv_RL_90 (by decide) rfl (hL.1 0 _ ls_0) dL_law_1043 (by decide) rfl (Nat.le_of_ble_eq_true rfl) ?_
  refine V.aload_n (pc := 1046) (i := 2) hK rfl ⟨_, rfl⟩ dL_law_1046 ?_
  refine V.aload_n (pc := 1047) (i := 0) hK rfl ⟨_, rfl⟩ dL_law_1047 ?_
  refine V.iload_n (pc := 1048) (i := 3) hK rfl dL_law_1048 ?_
  refine V.iconst (pc := 1049) (v := 1) hK (by decide) dL_law_1049 ?_
  refine V.iadd (pc := 1050) hK dL_law_1050 ?_
  refine V.sld (pc := 1051) (k := 1) hK hS (by decide) (by omega) hL4 dL_law_1051 ?_
  refine V.aload_n (pc := 1052) (i := 0) hK rfl ⟨_, rfl⟩ dL_law_1052 ?_
  refine V.iload_n (pc := 1053) (i := 3) hK rfl dL_law_1053 ?_
  refine V.iconst (pc := 1054) (v := 2) hK (by decide) dL_law_1054 ?_
  refine V.iadd (pc := 1055) hK dL_law_1055 ?_
  refine V.sld (pc := 1056) (k := 2) hK hS (by decide) (by omega) hL4 dL_law_1056 ?_
  refine V.aload_n (pc := 1057) (i := 0) hK rfl ⟨_, rfl⟩ dL_law_1057 ?_
  refine V.iload_n (pc := 1058) (i := 3) hK rfl dL_law_1058 ?_
  refine V.iconst (pc := 1059) (v := 3) hK (by decide) dL_law_1059 ?_
  refine V.iadd (pc := 1060) hK dL_law_1060 ?_
  refine V.sld (pc := 1061) (k := 3) hK hS (by decide) (by omega) hL4 dL_law_1061 ?_
  refine V.nb (pc := 1062) hK dL_law_1062 dL_law_1065 dL_law_1066 dL_law_1069 ?_
  refine V.cV (pc := 1070) (ci := 12) hK (c_X12_takes__ E hL N _ _ _ _ hm) Y_X12_takes__ cv_RL_94 (by decide) rfl (hL.1 79 _ ls_79) dL_law_1070 (by decide) rfl (Nat.le_of_ble_eq_true rfl) ?_
  exact V.icmp_eq (pc := 1073) (tgt := 1632) hK dL_law_1073 (by decide) (fun _ => kk) (fun c => absurd rfl c)
set_option maxHeartbeats 4000000 in
set_option maxRecDepth 100000 in
theorem law_18 {E : v_E} {X : v_X} {bb L i : Nat} {xs : Nat → Int32} (hK : v_K E X cL_law RL 4 1300) (hS : v_Sc E X bb L xs) (hL4 : L ≤ 4096) (hi : i + 8 ≤ L) {b1 b2 : Nat} {sh : v_S} {P : v_P} {M M1 M2 : v_M} (hL : v_Lay sh P) (hPO : v_PO sh P) {N : Nat} {r : Int32} (hx : f_X11_bound N P (xs (i + 1)) (xs (i + 2)) M = some (r, M1)) (hm : f_X12_bound N (xs (i + 1)) (xs (i + 2)) M1 = some (r, M2)) (kk : V E X (b1, b2) 1632 [(0, .ref bb), (1, v_rf E 0), (2, v_rf E 79), (3, .int (nI i))] [] sh P M2) : V E X (b1 + 7, b2 + 1967) 1078 [(0, .ref bb), (1, v_rf E 0), (2, v_rf E 79), (3, .int (nI i))] [] sh P M := by
  refine V.bud (b1, b2) ⟨Nat.le_add_right _ _, Nat.le_add_right _ _⟩ ?_
  refine V.aload_n (pc := 1078) (i := 1) hK rfl ⟨_, rfl⟩ dL_law_1078 ?_
  refine V.aload_n (pc := 1079) (i := 0) hK rfl ⟨_, rfl⟩ dL_law_1079 ?_
  refine V.iload_n (pc := 1080) (i := 3) hK rfl dL_law_1080 ?_
  refine V.iconst (pc := 1081) (v := 1) hK (by decide) dL_law_1081 ?_
  refine V.iadd (pc := 1082) hK dL_law_1082 ?_
  refine V.sld (pc := 1083) (k := 1) hK hS (by decide) (by omega) hL4 dL_law_1083 ?_
  refine V.aload_n (pc := 1084) (i := 0) hK rfl ⟨_, rfl⟩ dL_law_1084 ?_
  refine V.iload_n (pc := 1085) (i := 3) hK rfl dL_law_1085 ?_
  refine V.iconst (pc := 1086) (v := 2) hK (by decide) dL_law_1086 ?_
  refine V.iadd (pc := 1087) hK dL_law_1087 ?_
  refine V.sld (pc := 1088) (k := 2) hK hS (by decide) (by omega) hL4 dL_law_1088 ?_
  refine V.cV (pc := 1089) (ci := 11) hK (c_X11_bound E hL N hPO _ _ _ hx) Y_X11_bound cv_RL_95 (by decide) rfl (hL.1 0 _ ls_0) dL_law_1089 (by decide) rfl (Nat.le_of_ble_eq_true rfl) ?_
  refine V.aload_n (pc := 1092) (i := 2) hK rfl ⟨_, rfl⟩ dL_law_1092 ?_
  refine V.aload_n (pc := 1093) (i := 0) hK rfl ⟨_, rfl⟩ dL_law_1093 ?_
  refine V.iload_n (pc := 1094) (i := 3) hK rfl dL_law_1094 ?_
  refine V.iconst (pc := 1095) (v := 1) hK (by decide) dL_law_1095 ?_
  refine V.iadd (pc := 1096) hK dL_law_1096 ?_
  refine V.sld (pc := 1097) (k := 1) hK hS (by decide) (by omega) hL4 dL_law_1097 ?_
  refine V.aload_n (pc := 1098) (i := 0) hK rfl ⟨_, rfl⟩ dL_law_1098 ?_
  refine V.iload_n (pc := 1099) (i := 3) hK rfl dL_law_1099 ?_
  refine V.iconst (pc := 1100) (v := 2) hK (by decide) dL_law_1100 ?_
  refine V.iadd (pc := 1101) hK dL_law_1101 ?_
  refine V.sld (pc := 1102) (k := 2) hK hS (by decide) (by omega) hL4 dL_law_1102 ?_
  refine V.cV (pc := 1103) (ci := 12) hK (c_X12_bound E hL N _ _ _ hm) Y_X12_bound cv_RL_98 (by decide) rfl (hL.1 79 _ ls_79) dL_law_1103 (by decide) rfl (Nat.le_of_ble_eq_true rfl) ?_
  exact V.icmp_eq (pc := 1106) (tgt := 1632) hK dL_law_1106 (by decide) (fun _ => kk) (fun c => absurd rfl c)
set_option maxHeartbeats 4000000 in
set_option maxRecDepth 100000 in
theorem law_19 {E : v_E} {X : v_X} {bb L i : Nat} {xs : Nat → Int32} (hK : v_K E X cL_law RL 4 1300) (hS : v_Sc E X bb L xs) (hL4 : L ≤ 4096) (hi : i + 8 ≤ L) {b1 b2 : Nat} {sh : v_S} {P : v_P} {M M1 M2 : v_M} (hL : v_Lay sh P) {N : Nat} {r : Int32} (hx : f_X11_stamp N (xs (i + 1)) (xs (i + 2)) (xs (i + 3)) (xs (i + 4)) M = some (r, M1)) (hm : f_X12_stamp N (xs (i + 1)) (xs (i + 2)) (xs (i + 3)) (xs (i + 4)) M1 = some (r, M2)) (kk : V E X (b1, b2) 1632 [(0, .ref bb), (1, v_rf E 0), (2, v_rf E 79), (3, .int (nI i))] [] sh P M2) : V E X (b1 + 7, b2 + 1967) 1111 [(0, .ref bb), (1, v_rf E 0), (2, v_rf E 79), (3, .int (nI i))] [] sh P M := by
  refine V.bud (b1, b2) ⟨Nat.le_add_right _ _, Nat.le_add_right _ _⟩ ?_
  refine V.aload_n (pc := 1111) (i := 1) hK rfl ⟨_, rfl⟩ dL_law_1111 ?_
  refine V.aload_n (pc := 1112) (i := 0) hK rfl ⟨_, rfl⟩ dL_law_1112 ?_
  refine V.iload_n (pc := 1113) (i := 3) hK rfl dL_law_1113 ?_
  refine V.iconst (pc := 1114) (v := 1) hK (by decide) dL_law_1114 ?_
  refine V.iadd (pc := 1115) hK dL_law_1115 ?_
  refine V.sld (pc := 1116) (k := 1) hK hS (by decide) (by omega) hL4 dL_law_1116 ?_
  refine V.aload_n (pc := 1117) (i := 0) hK rfl ⟨_, rfl⟩ dL_law_1117 ?_
  refine V.iload_n (pc := 1118) (i := 3) hK rfl dL_law_1118 ?_
  refine V.iconst (pc := 1119) (v := 2) hK (by decide) dL_law_1119 ?_
  refine V.iadd (pc := 1120) hK dL_law_1120 ?_
  refine V.sld (pc := 1121) (k := 2) hK hS (by decide) (by omega) hL4 dL_law_1121 ?_
  refine V.aload_n (pc := 1122) (i := 0) hK rfl ⟨_, rfl⟩ dL_law_1122 ?_
  refine V.iload_n (pc := 1123) (i := 3) hK rfl dL_law_1123 ?_
  refine V.iconst (pc := 1124) (v := 3) hK (by decide) dL_law_1124 ?_
  refine V.iadd (pc := 1125) hK dL_law_1125 ?_
  refine V.sld (pc := 1126) (k := 3) hK hS (by decide) (by omega) hL4 dL_law_1126 ?_
  refine V.aload_n (pc := 1127) (i := 0) hK rfl ⟨_, rfl⟩ dL_law_1127 ?_
  refine V.iload_n (pc := 1128) (i := 3) hK rfl dL_law_1128 ?_
  refine V.iconst (pc := 1129) (v := 4) hK (by decide) dL_law_1129 ?_
  refine V.iadd (pc := 1130) hK dL_law_1130 ?_
  refine V.sld (pc := 1131) (k := 4) hK hS (by decide) (by omega) hL4 dL_law_1131 ?_
  refine V.cV (pc := 1132) (ci := 11) hK (c_X11_stamp E hL N _ _ _ _ _ hx) Y_X11_stamp cv_RL_99 (by decide) rfl (hL.1 0 _ ls_0) dL_law_1132 (by decide) rfl (Nat.le_of_ble_eq_true rfl) ?_
  refine V.aload_n (pc := 1135) (i := 2) hK rfl ⟨_, rfl⟩ dL_law_1135 ?_
  refine V.aload_n (pc := 1136) (i := 0) hK rfl ⟨_, rfl⟩ dL_law_1136 ?_
  refine V.iload_n (pc := 1137) (i := 3) hK rfl dL_law_1137 ?_
  refine V.iconst (pc := 1138) (v := 1) hK (by decide) dL_law_1138 ?_
  refine V.iadd (pc := 1139) hK dL_law_1139 ?_
  refine V.sld (pc := 1140) (k := 1) hK hS (by decide) (by omega) hL4 dL_law_1140 ?_
  refine V.aload_n (pc := 1141) (i := 0) hK rfl ⟨_, rfl⟩ dL_law_1141 ?_
  refine V.iload_n (pc := 1142) (i := 3) hK rfl dL_law_1142 ?_
  refine V.iconst (pc := 1143) (v := 2) hK (by decide) dL_law_1143 ?_
  refine V.iadd (pc := 1144) hK dL_law_1144 ?_
  refine V.sld (pc := 1145) (k := 2) hK hS (by decide) (by omega) hL4 dL_law_1145 ?_
  refine V.aload_n (pc := 1146) (i := 0) hK rfl ⟨_, rfl⟩ dL_law_1146 ?_
  refine V.iload_n (pc := 1147) (i := 3) hK rfl dL_law_1147 ?_
  refine V.iconst (pc := 1148) (v := 3) hK (by decide) dL_law_1148 ?_
  refine V.iadd (pc := 1149) hK dL_law_1149 ?_
  refine V.sld (pc := 1150) (k := 3) hK hS (by decide) (by omega) hL4 dL_law_1150 ?_
  refine V.aload_n (pc := 1151) (i := 0) hK rfl ⟨_, rfl⟩ dL_law_1151 ?_
  refine V.iload_n (pc := 1152) (i := 3) hK rfl dL_law_1152 ?_
  refine V.iconst (pc := 1153) (v := 4) hK (by decide) dL_law_1153 ?_
  refine V.iadd (pc := 1154) hK dL_law_1154 ?_
  refine V.sld (pc := 1155) (k := 4) hK hS (by decide) (by omega) hL4 dL_law_1155 ?_
  refine V.cV (pc := 1156) (ci := 12) hK (c_X12_stamp E hL N _ _ _ _ _ hm) Y_X12_stamp cv_RL_102 (by decide) rfl (hL.1 79 _ ls_79) dL_law_1156 (by decide) rfl (Nat.le_of_ble_eq_true rfl) ?_
  exact V.icmp_eq (pc := 1159) (tgt := 1632) hK dL_law_1159 (by decide) (fun _ => kk) (fun c => absurd rfl c)
set_option maxHeartbeats 4000000 in
set_option maxRecDepth 100000 in
theorem law_20 {E : v_E} {X : v_X} {bb L i : Nat} {xs : Nat → Int32} (hK : v_K E X cL_law RL 4 1300) (hS : v_Sc E X bb L xs) (hL4 : L ≤ 4096) (hi : i + 8 ≤ L) {b1 b2 : Nat} {sh : v_S} {P : v_P} {M M1 M2 : v_M} (hL : v_Lay sh P) {N : Nat} {r : Int32} (hx : f_X11_see N (xs (i + 1)) (xs (i + 2)) (xs (i + 3)) (v_nb (xs (i + 4))) M = some (r, M1)) (hm : f_X12_see N (xs (i + 1)) (xs (i + 2)) (xs (i + 3)) (v_nb (xs (i + 4))) M1 = some (r, M2)) (kk : V E X (b1, b2) 1632 [(0, .ref bb), (1, v_rf E 0), (2, v_rf E 79), (3, .int (nI i))] [] sh P M2) : V E X (b1 + 7, b2 + 1967) 1164 [(0, .ref bb), (1, v_rf E 0), (2, v_rf E 79), (3, .int (nI i))] [] sh P M := by
  refine V.bud (b1, b2) ⟨Nat.le_add_right _ _, Nat.le_add_right _ _⟩ ?_
  refine V.aload_n (pc := 1164) (i := 1) hK rfl ⟨_, rfl⟩ dL_law_1164 ?_
  refine V.aload_n (pc := 1165) (i := 0) hK rfl ⟨_, rfl⟩ dL_law_1165 ?_
  refine V.iload_n (pc := 1166) (i := 3) hK rfl dL_law_1166 ?_
  refine V.iconst (pc := 1167) (v := 1) hK (by decide) dL_law_1167 ?_
  refine V.iadd (pc := 1168) hK dL_law_1168 ?_
  refine V.sld (pc := 1169) (k := 1) hK hS (by decide) (by omega) hL4 dL_law_1169 ?_
  refine V.aload_n (pc := 1170) (i := 0) hK rfl ⟨_, rfl⟩ dL_law_1170 ?_
  refine V.iload_n (pc := 1171) (i := 3) hK rfl dL_law_1171 ?_
  refine V.iconst (pc := 1172) (v := 2) hK (by decide) dL_law_1172 ?_
  refine V.iadd (pc := 1173) hK dL_law_1173 ?_
  refine V.sld (pc := 1174) (k := 2) hK hS (by decide) (by omega) hL4 dL_law_1174 ?_
  refine V.aload_n (pc := 1175) (i := 0) hK rfl ⟨_, rfl⟩ dL_law_1175 ?_
  refine V.iload_n (pc := 1176) (i := 3) hK rfl dL_law_1176 ?_
  refine V.iconst (pc := 1177) (v := 3) hK (by decide) dL_law_1177 ?_
  refine V.iadd (pc := 1178) hK dL_law_1178 ?_
  refine V.sld (pc := 1179) (k := 3) hK hS (by decide) (by omega) hL4 dL_law_1179 ?_
  refine V.aload_n (pc := 1180) (i := 0) hK rfl ⟨_, rfl⟩ dL_law_1180 ?_
  refine V.iload_n (pc := 1181) (i := 3) hK rfl dL_law_1181 ?_
  refine V.iconst (pc := 1182) (v := 4) hK (by decide) dL_law_1182 ?_
  refine V.iadd (pc := 1183) hK dL_law_1183 ?_
  refine V.sld (pc := 1184) (k := 4) hK hS (by decide) (by omega) hL4 dL_law_1184 ?_
  refine V.nb (pc := 1185) hK dL_law_1185 dL_law_1188 dL_law_1189 dL_law_1192 ?_
  refine V.cV (pc := 1193) (ci := 11) hK (c_X11_see E hL N _ _ _ _ _ hx) Y_X11_see cv_RL_103 (by decide) rfl (hL.1 0 _ ls_0) dL_law_1193 (by decide) rfl (Nat.le_of_ble_eq_true rfl) ?_
  refine V.aload_n (pc := 1196) (i := 2) hK rfl ⟨_, rfl⟩ dL_law_1196 ?_
  refine V.aload_n (pc := 1197) (i := 0) hK rfl ⟨_, rfl⟩ dL_law_1197 ?_
  refine V.iload_n (pc := 1198) (i := 3) hK rfl dL_law_1198 ?_
  refine V.iconst (pc := 1199) (v := 1) hK (by decide) dL_law_1199 ?_
  refine V.iadd (pc := 1200) hK dL_law_1200 ?_
  refine V.sld (pc := 1201) (k := 1) hK hS (by decide) (by omega) hL4 dL_law_1201 ?_
  refine V.aload_n (pc := 1202) (i := 0) hK rfl ⟨_, rfl⟩ dL_law_1202 ?_
  refine V.iload_n (pc := 1203) (i := 3) hK rfl dL_law_1203 ?_
  refine V.iconst (pc := 1204) (v := 2) hK (by decide) dL_law_1204 ?_
  refine V.iadd (pc := 1205) hK dL_law_1205 ?_
  refine V.sld (pc := 1206) (k := 2) hK hS (by decide) (by omega) hL4 dL_law_1206 ?_
  refine V.aload_n (pc := 1207) (i := 0) hK rfl ⟨_, rfl⟩ dL_law_1207 ?_
  refine V.iload_n (pc := 1208) (i := 3) hK rfl dL_law_1208 ?_
  refine V.iconst (pc := 1209) (v := 3) hK (by decide) dL_law_1209 ?_
  refine V.iadd (pc := 1210) hK dL_law_1210 ?_
  refine V.sld (pc := 1211) (k := 3) hK hS (by decide) (by omega) hL4 dL_law_1211 ?_
  refine V.aload_n (pc := 1212) (i := 0) hK rfl ⟨_, rfl⟩ dL_law_1212 ?_
  refine V.iload_n (pc := 1213) (i := 3) hK rfl dL_law_1213 ?_
  refine V.iconst (pc := 1214) (v := 4) hK (by decide) dL_law_1214 ?_
  refine V.iadd (pc := 1215) hK dL_law_1215 ?_
  refine V.sld (pc := 1216) (k := 4) hK hS (by decide) (by omega) hL4 dL_law_1216 ?_
  refine V.nb (pc := 1217) hK dL_law_1217 dL_law_1220 dL_law_1221 dL_law_1224 ?_
  refine V.cV (pc := 1225) (ci := 12) hK (c_X12_see E hL N _ _ _ _ _ hm) Y_X12_see cv_RL_107 (by decide) rfl (hL.1 79 _ ls_79) dL_law_1225 (by decide) rfl (Nat.le_of_ble_eq_true rfl) ?_
  exact V.icmp_eq (pc := 1228) (tgt := 1632) hK dL_law_1228 (by decide) (fun _ => kk) (fun c => absurd rfl c)
set_option maxHeartbeats 4000000 in
set_option maxRecDepth 100000 in
theorem law_21 {E : v_E} {X : v_X} {bb L i : Nat} {xs : Nat → Int32} (hK : v_K E X cL_law RL 4 1300) (hS : v_Sc E X bb L xs) (hL4 : L ≤ 4096) (hi : i + 8 ≤ L) {b1 b2 : Nat} {sh : v_S} {P : v_P} {M M1 M2 : v_M} (hL : v_Lay sh P) {N : Nat} {r : Int32} (hx : f_X11_fewest N M = some (r, M1)) (hm : f_X12_fewest N M1 = some (r, M2)) (kk : V E X (b1, b2) 1632 [(0, .ref bb), (1, v_rf E 0), (2, v_rf E 79), (3, .int (nI i))] [] sh P M2) : V E X (b1 + 7, b2 + 1967) 1233 [(0, .ref bb), (1, v_rf E 0), (2, v_rf E 79), (3, .int (nI i))] [] sh P M := by
  refine V.bud (b1, b2) ⟨Nat.le_add_right _ _, Nat.le_add_right _ _⟩ ?_
  refine V.aload_n (pc := 1233) (i := 1) hK rfl ⟨_, rfl⟩ dL_law_1233 ?_
  refine V.cV (pc := 1234) (ci := 11) hK (c_X11_fewest E hL N _ hx) Y_X11_fewest cv_RL_108 (by decide) rfl (hL.1 0 _ ls_0) dL_law_1234 (by decide) rfl (Nat.le_of_ble_eq_true rfl) ?_
  refine V.aload_n (pc := 1237) (i := 2) hK rfl ⟨_, rfl⟩ dL_law_1237 ?_
  refine V.cV (pc := 1238) (ci := 12) hK (c_X12_fewest E hL N _ hm) Y_X12_fewest cv_RL_111 (by decide) rfl (hL.1 79 _ ls_79) dL_law_1238 (by decide) rfl (Nat.le_of_ble_eq_true rfl) ?_
  exact V.icmp_eq (pc := 1241) (tgt := 1632) hK dL_law_1241 (by decide) (fun _ => kk) (fun c => absurd rfl c)
set_option maxHeartbeats 4000000 in
set_option maxRecDepth 100000 in
theorem law_22 {E : v_E} {X : v_X} {bb L i : Nat} {xs : Nat → Int32} (hK : v_K E X cL_law RL 4 1300) (hS : v_Sc E X bb L xs) (hL4 : L ≤ 4096) (hi : i + 8 ≤ L) {b1 b2 : Nat} {sh : v_S} {P : v_P} {M M1 M2 : v_M} (hL : v_Lay sh P) {N : Nat} {r : Int32} (hx : f_X11_sure N (xs (i + 1)) M = some (r, M1)) (hm : f_X12_sure N (xs (i + 1)) M1 = some (r, M2)) (kk : V E X (b1, b2) 1632 [(0, .ref bb), (1, v_rf E 0), (2, v_rf E 79), (3, .int (nI i))] [] sh P M2) : V E X (b1 + 7, b2 + 1967) 1246 [(0, .ref bb), (1, v_rf E 0), (2, v_rf E 79), (3, .int (nI i))] [] sh P M := by
  refine V.bud (b1, b2) ⟨Nat.le_add_right _ _, Nat.le_add_right _ _⟩ ?_
  refine V.aload_n (pc := 1246) (i := 1) hK rfl ⟨_, rfl⟩ dL_law_1246 ?_
  refine V.aload_n (pc := 1247) (i := 0) hK rfl ⟨_, rfl⟩ dL_law_1247 ?_
  refine V.iload_n (pc := 1248) (i := 3) hK rfl dL_law_1248 ?_
  refine V.iconst (pc := 1249) (v := 1) hK (by decide) dL_law_1249 ?_
  refine V.iadd (pc := 1250) hK dL_law_1250 ?_
  refine V.sld (pc := 1251) (k := 1) hK hS (by decide) (by omega) hL4 dL_law_1251 ?_
  refine V.cV (pc := 1252) (ci := 11) hK (c_X11_sure E hL N _ _ hx) Y_X11_sure cv_RL_112 (by decide) rfl (hL.1 0 _ ls_0) dL_law_1252 (by decide) rfl (Nat.le_of_ble_eq_true rfl) ?_
  refine V.aload_n (pc := 1255) (i := 2) hK rfl ⟨_, rfl⟩ dL_law_1255 ?_
  refine V.aload_n (pc := 1256) (i := 0) hK rfl ⟨_, rfl⟩ dL_law_1256 ?_
  refine V.iload_n (pc := 1257) (i := 3) hK rfl dL_law_1257 ?_
  refine V.iconst (pc := 1258) (v := 1) hK (by decide) dL_law_1258 ?_
  refine V.iadd (pc := 1259) hK dL_law_1259 ?_
  refine V.sld (pc := 1260) (k := 1) hK hS (by decide) (by omega) hL4 dL_law_1260 ?_
  refine V.cV (pc := 1261) (ci := 12) hK (c_X12_sure E hL N _ _ hm) Y_X12_sure cv_RL_115 (by decide) rfl (hL.1 79 _ ls_79) dL_law_1261 (by decide) rfl (Nat.le_of_ble_eq_true rfl) ?_
  exact V.icmp_eq (pc := 1264) (tgt := 1632) hK dL_law_1264 (by decide) (fun _ => kk) (fun c => absurd rfl c)
set_option maxHeartbeats 4000000 in
set_option maxRecDepth 100000 in
theorem law_23 {E : v_E} {X : v_X} {bb L i : Nat} {xs : Nat → Int32} (hK : v_K E X cL_law RL 4 1300) (hS : v_Sc E X bb L xs) (hL4 : L ≤ 4096) (hi : i + 8 ≤ L) {b1 b2 : Nat} {sh : v_S} {P : v_P} {M M1 M2 : v_M} (hL : v_Lay sh P) {N : Nat} {r : Int32} (hx : f_X11_paper N (xs (i + 1)) (xs (i + 2)) (xs (i + 3)) M = some (r, M1)) (hm : f_X12_paper N (xs (i + 1)) (xs (i + 2)) (xs (i + 3)) M1 = some (r, M2)) (kk : V E X (b1, b2) 1632 [(0, .ref bb), (1, v_rf E 0), (2, v_rf E 79), (3, .int (nI i))] [] sh P M2) : V E X (b1 + 7, b2 + 1967) 1269 [(0, .ref bb), (1, v_rf E 0), (2, v_rf E 79), (3, .int (nI i))] [] sh P M := by
  refine V.bud (b1, b2) ⟨Nat.le_add_right _ _, Nat.le_add_right _ _⟩ ?_
  refine V.aload_n (pc := 1269) (i := 1) hK rfl ⟨_, rfl⟩ dL_law_1269 ?_
  refine V.aload_n (pc := 1270) (i := 0) hK rfl ⟨_, rfl⟩ dL_law_1270 ?_
  refine V.iload_n (pc := 1271) (i := 3) hK rfl dL_law_1271 ?_
  refine V.iconst (pc := 1272) (v := 1) hK (by decide) dL_law_1272 ?_
  refine V.iadd (pc := 1273) hK dL_law_1273 ?_
  refine V.sld (pc := 1274) (k := 1) hK hS (by decide) (by omega) hL4 dL_law_1274 ?_
  refine V.aload_n (pc := 1275) (i := 0) hK rfl ⟨_, rfl⟩ dL_law_1275 ?_
  refine V.iload_n (pc := 1276) (i := 3) hK rfl dL_law_1276 ?_
  refine V.iconst (pc := 1277) (v := 2) hK (by decide) dL_law_1277 ?_
  refine V.iadd (pc := 1278) hK dL_law_1278 ?_
  refine V.sld (pc := 1279) (k := 2) hK hS (by decide) (by omega) hL4 dL_law_1279 ?_
  refine V.aload_n (pc := 1280) (i := 0) hK rfl ⟨_, rfl⟩ dL_law_1280 ?_
  refine V.iload_n (pc := 1281) (i := 3) hK rfl dL_law_1281 ?_
  refine V.iconst (pc := 1282) (v := 3) hK (by decide) dL_law_1282 ?_
  refine V.iadd (pc := 1283) hK dL_law_1283 ?_
  refine V.sld (pc := 1284) (k := 3) hK hS (by decide) (by omega) hL4 dL_law_1284 ?_
  refine V.cV (pc := 1285) (ci := 11) hK (c_X11_paper E hL N _ _ _ _ hx) Y_X11_paper cv_RL_116 (by decide) rfl (hL.1 0 _ ls_0) dL_law_1285 (by decide) rfl (Nat.le_of_ble_eq_true rfl) ?_
  refine V.aload_n (pc := 1288) (i := 2) hK rfl ⟨_, rfl⟩ dL_law_1288 ?_
  refine V.aload_n (pc := 1289) (i := 0) hK rfl ⟨_, rfl⟩ dL_law_1289 ?_
  refine V.iload_n (pc := 1290) (i := 3) hK rfl dL_law_1290 ?_
  refine V.iconst (pc := 1291) (v := 1) hK (by decide) dL_law_1291 ?_
  refine V.iadd (pc := 1292) hK dL_law_1292 ?_
  refine V.sld (pc := 1293) (k := 1) hK hS (by decide) (by omega) hL4 dL_law_1293 ?_
  refine V.aload_n (pc := 1294) (i := 0) hK rfl ⟨_, rfl⟩ dL_law_1294 ?_
  refine V.iload_n (pc := 1295) (i := 3) hK rfl dL_law_1295 ?_
  refine V.iconst (pc := 1296) (v := 2) hK (by decide) dL_law_1296 ?_
  refine V.iadd (pc := 1297) hK dL_law_1297 ?_
  refine V.sld (pc := 1298) (k := 2) hK hS (by decide) (by omega) hL4 dL_law_1298 ?_
  refine V.aload_n (pc := 1299) (i := 0) hK rfl ⟨_, rfl⟩ dL_law_1299 ?_
  refine V.iload_n (pc := 1300) (i := 3) hK rfl dL_law_1300 ?_
  refine V.iconst (pc := 1301) (v := 3) hK (by decide) dL_law_1301 ?_
  refine V.iadd (pc := 1302) hK dL_law_1302 ?_
  refine V.sld (pc := 1303) (k := 3) hK hS (by decide) (by omega) hL4 dL_law_1303 ?_
  refine V.cV (pc := 1304) (ci := 12) hK (c_X12_paper E hL N _ _ _ _ hm) Y_X12_paper cv_RL_119 (by decide) rfl (hL.1 79 _ ls_79) dL_law_1304 (by decide) rfl (Nat.le_of_ble_eq_true rfl) ?_
  exact V.icmp_eq (pc := 1307) (tgt := 1632) hK dL_law_1307 (by decide) (fun _ => kk) (fun c => absurd rfl c)
set_option maxHeartbeats 4000000 in
set_option maxRecDepth 100000 in
theorem law_24 {E : v_E} {X : v_X} {bb L i : Nat} {xs : Nat → Int32} (hK : v_K E X cL_law RL 4 1300) (hS : v_Sc E X bb L xs) (hL4 : L ≤ 4096) (hi : i + 8 ≤ L) {b1 b2 : Nat} {sh : v_S} {P : v_P} {M M1 M2 : v_M} (hL : v_Lay sh P) {N : Nat} {r : Int32} (hx : f_X11_read N (xs (i + 1)) (xs (i + 2)) (xs (i + 3)) M = some (r, M1)) (hm : f_X12_read N (xs (i + 1)) (xs (i + 2)) (xs (i + 3)) M1 = some (r, M2)) (kk : V E X (b1, b2) 1632 [(0, .ref bb), (1, v_rf E 0), (2, v_rf E 79), (3, .int (nI i))] [] sh P M2) : V E X (b1 + 7, b2 + 1967) 1312 [(0, .ref bb), (1, v_rf E 0), (2, v_rf E 79), (3, .int (nI i))] [] sh P M := by
  refine V.bud (b1, b2) ⟨Nat.le_add_right _ _, Nat.le_add_right _ _⟩ ?_
  refine V.aload_n (pc := 1312) (i := 1) hK rfl ⟨_, rfl⟩ dL_law_1312 ?_
  refine V.aload_n (pc := 1313) (i := 0) hK rfl ⟨_, rfl⟩ dL_law_1313 ?_
  refine V.iload_n (pc := 1314) (i := 3) hK rfl dL_law_1314 ?_
  refine V.iconst (pc := 1315) (v := 1) hK (by decide) dL_law_1315 ?_
  refine V.iadd (pc := 1316) hK dL_law_1316 ?_
  refine V.sld (pc := 1317) (k := 1) hK hS (by decide) (by omega) hL4 dL_law_1317 ?_
  refine V.aload_n (pc := 1318) (i := 0) hK rfl ⟨_, rfl⟩ dL_law_1318 ?_
  refine V.iload_n (pc := 1319) (i := 3) hK rfl dL_law_1319 ?_
  refine V.iconst (pc := 1320) (v := 2) hK (by decide) dL_law_1320 ?_
  refine V.iadd (pc := 1321) hK dL_law_1321 ?_
  refine V.sld (pc := 1322) (k := 2) hK hS (by decide) (by omega) hL4 dL_law_1322 ?_
  refine V.aload_n (pc := 1323) (i := 0) hK rfl ⟨_, rfl⟩ dL_law_1323 ?_
  refine V.iload_n (pc := 1324) (i := 3) hK rfl dL_law_1324 ?_
  refine V.iconst (pc := 1325) (v := 3) hK (by decide) dL_law_1325 ?_
  refine V.iadd (pc := 1326) hK dL_law_1326 ?_
  refine V.sld (pc := 1327) (k := 3) hK hS (by decide) (by omega) hL4 dL_law_1327 ?_
  refine V.cV (pc := 1328) (ci := 11) hK (c_X11_read E hL N _ _ _ _ hx) Y_X11_read cv_RL_120 (by decide) rfl (hL.1 0 _ ls_0) dL_law_1328 (by decide) rfl (Nat.le_of_ble_eq_true rfl) ?_
  refine V.aload_n (pc := 1331) (i := 2) hK rfl ⟨_, rfl⟩ dL_law_1331 ?_
  refine V.aload_n (pc := 1332) (i := 0) hK rfl ⟨_, rfl⟩ dL_law_1332 ?_
  refine V.iload_n (pc := 1333) (i := 3) hK rfl dL_law_1333 ?_
  refine V.iconst (pc := 1334) (v := 1) hK (by decide) dL_law_1334 ?_
  refine V.iadd (pc := 1335) hK dL_law_1335 ?_
  refine V.sld (pc := 1336) (k := 1) hK hS (by decide) (by omega) hL4 dL_law_1336 ?_
  refine V.aload_n (pc := 1337) (i := 0) hK rfl ⟨_, rfl⟩ dL_law_1337 ?_
  refine V.iload_n (pc := 1338) (i := 3) hK rfl dL_law_1338 ?_
  refine V.iconst (pc := 1339) (v := 2) hK (by decide) dL_law_1339 ?_
  refine V.iadd (pc := 1340) hK dL_law_1340 ?_
  refine V.sld (pc := 1341) (k := 2) hK hS (by decide) (by omega) hL4 dL_law_1341 ?_
  refine V.aload_n (pc := 1342) (i := 0) hK rfl ⟨_, rfl⟩ dL_law_1342 ?_
  refine V.iload_n (pc := 1343) (i := 3) hK rfl dL_law_1343 ?_
  refine V.iconst (pc := 1344) (v := 3) hK (by decide) dL_law_1344 ?_
  refine V.iadd (pc := 1345) hK dL_law_1345 ?_
  refine V.sld (pc := 1346) (k := 3) hK hS (by decide) (by omega) hL4 dL_law_1346 ?_
  refine V.cV (pc := 1347) (ci := 12) hK (c_X12_read E hL N _ _ _ _ hm) Y_X12_read cv_RL_124 (by decide) rfl (hL.1 79 _ ls_79) dL_law_1347 (by decide) rfl (Nat.le_of_ble_eq_true rfl) ?_
  exact V.icmp_eq (pc := 1350) (tgt := 1632) hK dL_law_1350 (by decide) (fun _ => kk) (fun c => absurd rfl c)
set_option maxHeartbeats 4000000 in
set_option maxRecDepth 100000 in
theorem law_25 {E : v_E} {X : v_X} {bb L i : Nat} {xs : Nat → Int32} (hK : v_K E X cL_law RL 4 1300) (hS : v_Sc E X bb L xs) (hL4 : L ≤ 4096) (hi : i + 8 ≤ L) {b1 b2 : Nat} {sh : v_S} {P : v_P} {M M1 M2 : v_M} (hL : v_Lay sh P) {N : Nat} {r : Int32} (hx : f_X11_knew N (xs (i + 1)) (xs (i + 2)) M = some (r, M1)) (hm : f_X12_knew N (xs (i + 1)) (xs (i + 2)) M1 = some (r, M2)) (kk : V E X (b1, b2) 1632 [(0, .ref bb), (1, v_rf E 0), (2, v_rf E 79), (3, .int (nI i))] [] sh P M2) : V E X (b1 + 7, b2 + 1967) 1355 [(0, .ref bb), (1, v_rf E 0), (2, v_rf E 79), (3, .int (nI i))] [] sh P M := by
  refine V.bud (b1, b2) ⟨Nat.le_add_right _ _, Nat.le_add_right _ _⟩ ?_
  refine V.aload_n (pc := 1355) (i := 1) hK rfl ⟨_, rfl⟩ dL_law_1355 ?_
  refine V.aload_n (pc := 1356) (i := 0) hK rfl ⟨_, rfl⟩ dL_law_1356 ?_
  refine V.iload_n (pc := 1357) (i := 3) hK rfl dL_law_1357 ?_
  refine V.iconst (pc := 1358) (v := 1) hK (by decide) dL_law_1358 ?_
  refine V.iadd (pc := 1359) hK dL_law_1359 ?_
  refine V.sld (pc := 1360) (k := 1) hK hS (by decide) (by omega) hL4 dL_law_1360 ?_
  refine V.aload_n (pc := 1361) (i := 0) hK rfl ⟨_, rfl⟩ dL_law_1361 ?_
  refine V.iload_n (pc := 1362) (i := 3) hK rfl dL_law_1362 ?_
  refine V.iconst (pc := 1363) (v := 2) hK (by decide) dL_law_1363 ?_
  refine V.iadd (pc := 1364) hK dL_law_1364 ?_
  refine V.sld (pc := 1365) (k := 2) hK hS (by decide) (by omega) hL4 dL_law_1365 ?_
  refine V.cV (pc := 1366) (ci := 11) hK (c_X11_knew E hL N _ _ _ hx) Y_X11_knew cv_RL_125 (by decide) rfl (hL.1 0 _ ls_0) dL_law_1366 (by decide) rfl (Nat.le_of_ble_eq_true rfl) ?_
  refine V.aload_n (pc := 1369) (i := 2) hK rfl ⟨_, rfl⟩ dL_law_1369 ?_
  refine V.aload_n (pc := 1370) (i := 0) hK rfl ⟨_, rfl⟩ dL_law_1370 ?_
  refine V.iload_n (pc := 1371) (i := 3) hK rfl dL_law_1371 ?_
  refine V.iconst (pc := 1372) (v := 1) hK (by decide) dL_law_1372 ?_
  refine V.iadd (pc := 1373) hK dL_law_1373 ?_
  refine V.sld (pc := 1374) (k := 1) hK hS (by decide) (by omega) hL4 dL_law_1374 ?_
  refine V.aload_n (pc := 1375) (i := 0) hK rfl ⟨_, rfl⟩ dL_law_1375 ?_
  refine V.iload_n (pc := 1376) (i := 3) hK rfl dL_law_1376 ?_
  refine V.iconst (pc := 1377) (v := 2) hK (by decide) dL_law_1377 ?_
  refine V.iadd (pc := 1378) hK dL_law_1378 ?_
  refine V.sld (pc := 1379) (k := 2) hK hS (by decide) (by omega) hL4 dL_law_1379 ?_
  refine V.cV (pc := 1380) (ci := 12) hK (c_X12_knew E hL N _ _ _ hm) Y_X12_knew cv_RL_128 (by decide) rfl (hL.1 79 _ ls_79) dL_law_1380 (by decide) rfl (Nat.le_of_ble_eq_true rfl) ?_
  exact V.icmp_eq (pc := 1383) (tgt := 1632) hK dL_law_1383 (by decide) (fun _ => kk) (fun c => absurd rfl c)
set_option maxHeartbeats 4000000 in
set_option maxRecDepth 100000 in
theorem law_26 {E : v_E} {X : v_X} {bb L i : Nat} {xs : Nat → Int32} (hK : v_K E X cL_law RL 4 1300) (hS : v_Sc E X bb L xs) (hL4 : L ≤ 4096) (hi : i + 8 ≤ L) {b1 b2 : Nat} {sh : v_S} {P : v_P} {M M1 M2 : v_M} (hL : v_Lay sh P) {N : Nat} {r : Int32} (hx : f_X11_warned N (xs (i + 1)) (xs (i + 2)) M = some (r, M1)) (hm : f_X12_warned N (xs (i + 1)) (xs (i + 2)) M1 = some (r, M2)) (kk : V E X (b1, b2) 1632 [(0, .ref bb), (1, v_rf E 0), (2, v_rf E 79), (3, .int (nI i))] [] sh P M2) : V E X (b1 + 7, b2 + 1967) 1388 [(0, .ref bb), (1, v_rf E 0), (2, v_rf E 79), (3, .int (nI i))] [] sh P M := by
  refine V.bud (b1, b2) ⟨Nat.le_add_right _ _, Nat.le_add_right _ _⟩ ?_
  refine V.aload_n (pc := 1388) (i := 1) hK rfl ⟨_, rfl⟩ dL_law_1388 ?_
  refine V.aload_n (pc := 1389) (i := 0) hK rfl ⟨_, rfl⟩ dL_law_1389 ?_
  refine V.iload_n (pc := 1390) (i := 3) hK rfl dL_law_1390 ?_
  refine V.iconst (pc := 1391) (v := 1) hK (by decide) dL_law_1391 ?_
  refine V.iadd (pc := 1392) hK dL_law_1392 ?_
  refine V.sld (pc := 1393) (k := 1) hK hS (by decide) (by omega) hL4 dL_law_1393 ?_
  refine V.aload_n (pc := 1394) (i := 0) hK rfl ⟨_, rfl⟩ dL_law_1394 ?_
  refine V.iload_n (pc := 1395) (i := 3) hK rfl dL_law_1395 ?_
  refine V.iconst (pc := 1396) (v := 2) hK (by decide) dL_law_1396 ?_
  refine V.iadd (pc := 1397) hK dL_law_1397 ?_
  refine V.sld (pc := 1398) (k := 2) hK hS (by decide) (by omega) hL4 dL_law_1398 ?_
  refine V.cV (pc := 1399) (ci := 11) hK (c_X11_warned E hL N _ _ _ hx) Y_X11_warned cv_RL_129 (by decide) rfl (hL.1 0 _ ls_0) dL_law_1399 (by decide) rfl (Nat.le_of_ble_eq_true rfl) ?_
  refine V.aload_n (pc := 1402) (i := 2) hK rfl ⟨_, rfl⟩ dL_law_1402 ?_
  refine V.aload_n (pc := 1403) (i := 0) hK rfl ⟨_, rfl⟩ dL_law_1403 ?_
  refine V.iload_n (pc := 1404) (i := 3) hK rfl dL_law_1404 ?_
  refine V.iconst (pc := 1405) (v := 1) hK (by decide) dL_law_1405 ?_
  refine V.iadd (pc := 1406) hK dL_law_1406 ?_
  refine V.sld (pc := 1407) (k := 1) hK hS (by decide) (by omega) hL4 dL_law_1407 ?_
  refine V.aload_n (pc := 1408) (i := 0) hK rfl ⟨_, rfl⟩ dL_law_1408 ?_
  refine V.iload_n (pc := 1409) (i := 3) hK rfl dL_law_1409 ?_
  refine V.iconst (pc := 1410) (v := 2) hK (by decide) dL_law_1410 ?_
  refine V.iadd (pc := 1411) hK dL_law_1411 ?_
  refine V.sld (pc := 1412) (k := 2) hK hS (by decide) (by omega) hL4 dL_law_1412 ?_
  refine V.cV (pc := 1413) (ci := 12) hK (c_X12_warned E hL N _ _ _ hm) Y_X12_warned cv_RL_132 (by decide) rfl (hL.1 79 _ ls_79) dL_law_1413 (by decide) rfl (Nat.le_of_ble_eq_true rfl) ?_
  exact V.icmp_eq (pc := 1416) (tgt := 1632) hK dL_law_1416 (by decide) (fun _ => kk) (fun c => absurd rfl c)
set_option maxHeartbeats 4000000 in
set_option maxRecDepth 100000 in
theorem law_27 {E : v_E} {X : v_X} {bb L i : Nat} {xs : Nat → Int32} (hK : v_K E X cL_law RL 4 1300) (hS : v_Sc E X bb L xs) (hL4 : L ≤ 4096) (hi : i + 8 ≤ L) {b1 b2 : Nat} {sh : v_S} {P : v_P} {M M1 M2 : v_M} (hL : v_Lay sh P) {N : Nat} {r : Int32} (hx : f_X11_wears N (xs (i + 1)) (xs (i + 2)) M = some (r, M1)) (hm : f_X12_wears N (xs (i + 1)) (xs (i + 2)) M1 = some (r, M2)) (kk : V E X (b1, b2) 1632 [(0, .ref bb), (1, v_rf E 0), (2, v_rf E 79), (3, .int (nI i))] [] sh P M2) : V E X (b1 + 7, b2 + 1967) 1421 [(0, .ref bb), (1, v_rf E 0), (2, v_rf E 79), (3, .int (nI i))] [] sh P M := by
  refine V.bud (b1, b2) ⟨Nat.le_add_right _ _, Nat.le_add_right _ _⟩ ?_
  refine V.aload_n (pc := 1421) (i := 1) hK rfl ⟨_, rfl⟩ dL_law_1421 ?_
  refine V.aload_n (pc := 1422) (i := 0) hK rfl ⟨_, rfl⟩ dL_law_1422 ?_
  refine V.iload_n (pc := 1423) (i := 3) hK rfl dL_law_1423 ?_
  refine V.iconst (pc := 1424) (v := 1) hK (by decide) dL_law_1424 ?_
  refine V.iadd (pc := 1425) hK dL_law_1425 ?_
  refine V.sld (pc := 1426) (k := 1) hK hS (by decide) (by omega) hL4 dL_law_1426 ?_
  refine V.aload_n (pc := 1427) (i := 0) hK rfl ⟨_, rfl⟩ dL_law_1427 ?_
  refine V.iload_n (pc := 1428) (i := 3) hK rfl dL_law_1428 ?_
  refine V.iconst (pc := 1429) (v := 2) hK (by decide) dL_law_1429 ?_
  refine V.iadd (pc := 1430) hK dL_law_1430 ?_
  refine V.sld (pc := 1431) (k := 2) hK hS (by decide) (by omega) hL4 dL_law_1431 ?_
  refine V.cV (pc := 1432) (ci := 11) hK (c_X11_wears E hL N _ _ _ hx) Y_X11_wears cv_RL_133 (by decide) rfl (hL.1 0 _ ls_0) dL_law_1432 (by decide) rfl (Nat.le_of_ble_eq_true rfl) ?_
  refine V.aload_n (pc := 1435) (i := 2) hK rfl ⟨_, rfl⟩ dL_law_1435 ?_
  refine V.aload_n (pc := 1436) (i := 0) hK rfl ⟨_, rfl⟩ dL_law_1436 ?_
  refine V.iload_n (pc := 1437) (i := 3) hK rfl dL_law_1437 ?_
  refine V.iconst (pc := 1438) (v := 1) hK (by decide) dL_law_1438 ?_
  refine V.iadd (pc := 1439) hK dL_law_1439 ?_
  refine V.sld (pc := 1440) (k := 1) hK hS (by decide) (by omega) hL4 dL_law_1440 ?_
  refine V.aload_n (pc := 1441) (i := 0) hK rfl ⟨_, rfl⟩ dL_law_1441 ?_
  refine V.iload_n (pc := 1442) (i := 3) hK rfl dL_law_1442 ?_
  refine V.iconst (pc := 1443) (v := 2) hK (by decide) dL_law_1443 ?_
  refine V.iadd (pc := 1444) hK dL_law_1444 ?_
  refine V.sld (pc := 1445) (k := 2) hK hS (by decide) (by omega) hL4 dL_law_1445 ?_
  refine V.cV (pc := 1446) (ci := 12) hK (c_X12_wears E hL N _ _ _ hm) Y_X12_wears cv_RL_136 (by decide) rfl (hL.1 79 _ ls_79) dL_law_1446 (by decide) rfl (Nat.le_of_ble_eq_true rfl) ?_
  exact V.icmp_eq (pc := 1449) (tgt := 1632) hK dL_law_1449 (by decide) (fun _ => kk) (fun c => absurd rfl c)
set_option maxHeartbeats 4000000 in
set_option maxRecDepth 100000 in
theorem law_28 {E : v_E} {X : v_X} {bb L i : Nat} {xs : Nat → Int32} (hK : v_K E X cL_law RL 4 1300) (hS : v_Sc E X bb L xs) (hL4 : L ≤ 4096) (hi : i + 8 ≤ L) {b1 b2 : Nat} {sh : v_S} {P : v_P} {M M1 M2 : v_M} (hL : v_Lay sh P) {N : Nat} {r : Int32} (hx : f_X11_fly N (xs (i + 1)) (xs (i + 2)) M = some (r, M1)) (hm : f_X12_fly N (xs (i + 1)) (xs (i + 2)) M1 = some (r, M2)) (kk : V E X (b1, b2) 1632 [(0, .ref bb), (1, v_rf E 0), (2, v_rf E 79), (3, .int (nI i))] [] sh P M2) : V E X (b1 + 7, b2 + 1967) 1454 [(0, .ref bb), (1, v_rf E 0), (2, v_rf E 79), (3, .int (nI i))] [] sh P M := by
  refine V.bud (b1, b2) ⟨Nat.le_add_right _ _, Nat.le_add_right _ _⟩ ?_
  refine V.aload_n (pc := 1454) (i := 1) hK rfl ⟨_, rfl⟩ dL_law_1454 ?_
  refine V.aload_n (pc := 1455) (i := 0) hK rfl ⟨_, rfl⟩ dL_law_1455 ?_
  refine V.iload_n (pc := 1456) (i := 3) hK rfl dL_law_1456 ?_
  refine V.iconst (pc := 1457) (v := 1) hK (by decide) dL_law_1457 ?_
  refine V.iadd (pc := 1458) hK dL_law_1458 ?_
  refine V.sld (pc := 1459) (k := 1) hK hS (by decide) (by omega) hL4 dL_law_1459 ?_
  refine V.aload_n (pc := 1460) (i := 0) hK rfl ⟨_, rfl⟩ dL_law_1460 ?_
  refine V.iload_n (pc := 1461) (i := 3) hK rfl dL_law_1461 ?_
  refine V.iconst (pc := 1462) (v := 2) hK (by decide) dL_law_1462 ?_
  refine V.iadd (pc := 1463) hK dL_law_1463 ?_
  refine V.sld (pc := 1464) (k := 2) hK hS (by decide) (by omega) hL4 dL_law_1464 ?_
  refine V.cV (pc := 1465) (ci := 11) hK (c_X11_fly E hL N _ _ _ hx) Y_X11_fly cv_RL_137 (by decide) rfl (hL.1 0 _ ls_0) dL_law_1465 (by decide) rfl (Nat.le_of_ble_eq_true rfl) ?_
  refine V.aload_n (pc := 1468) (i := 2) hK rfl ⟨_, rfl⟩ dL_law_1468 ?_
  refine V.aload_n (pc := 1469) (i := 0) hK rfl ⟨_, rfl⟩ dL_law_1469 ?_
  refine V.iload_n (pc := 1470) (i := 3) hK rfl dL_law_1470 ?_
  refine V.iconst (pc := 1471) (v := 1) hK (by decide) dL_law_1471 ?_
  refine V.iadd (pc := 1472) hK dL_law_1472 ?_
  refine V.sld (pc := 1473) (k := 1) hK hS (by decide) (by omega) hL4 dL_law_1473 ?_
  refine V.aload_n (pc := 1474) (i := 0) hK rfl ⟨_, rfl⟩ dL_law_1474 ?_
  refine V.iload_n (pc := 1475) (i := 3) hK rfl dL_law_1475 ?_
  refine V.iconst (pc := 1476) (v := 2) hK (by decide) dL_law_1476 ?_
  refine V.iadd (pc := 1477) hK dL_law_1477 ?_
  refine V.sld (pc := 1478) (k := 2) hK hS (by decide) (by omega) hL4 dL_law_1478 ?_
  refine V.cV (pc := 1479) (ci := 12) hK (c_X12_fly E hL N _ _ _ hm) Y_X12_fly cv_RL_140 (by decide) rfl (hL.1 79 _ ls_79) dL_law_1479 (by decide) rfl (Nat.le_of_ble_eq_true rfl) ?_
  exact V.icmp_eq (pc := 1482) (tgt := 1632) hK dL_law_1482 (by decide) (fun _ => kk) (fun c => absurd rfl c)
set_option maxHeartbeats 4000000 in
set_option maxRecDepth 100000 in
theorem law_29 {E : v_E} {X : v_X} {bb L i : Nat} {xs : Nat → Int32} (hK : v_K E X cL_law RL 4 1300) (hS : v_Sc E X bb L xs) (hL4 : L ≤ 4096) (hi : i + 8 ≤ L) {b1 b2 : Nat} {sh : v_S} {P : v_P} {M M1 M2 : v_M} (hL : v_Lay sh P) {N : Nat} {r : Int32} (hx : f_X11_odds N (xs (i + 1)) (xs (i + 2)) M = some (r, M1)) (hm : f_X12_odds N (xs (i + 1)) (xs (i + 2)) M1 = some (r, M2)) (kk : V E X (b1, b2) 1632 [(0, .ref bb), (1, v_rf E 0), (2, v_rf E 79), (3, .int (nI i))] [] sh P M2) : V E X (b1 + 7, b2 + 1967) 1487 [(0, .ref bb), (1, v_rf E 0), (2, v_rf E 79), (3, .int (nI i))] [] sh P M := by
  refine V.bud (b1, b2) ⟨Nat.le_add_right _ _, Nat.le_add_right _ _⟩ ?_
  refine V.aload_n (pc := 1487) (i := 1) hK rfl ⟨_, rfl⟩ dL_law_1487 ?_
  refine V.aload_n (pc := 1488) (i := 0) hK rfl ⟨_, rfl⟩ dL_law_1488 ?_
  refine V.iload_n (pc := 1489) (i := 3) hK rfl dL_law_1489 ?_
  refine V.iconst (pc := 1490) (v := 1) hK (by decide) dL_law_1490 ?_
  refine V.iadd (pc := 1491) hK dL_law_1491 ?_
  refine V.sld (pc := 1492) (k := 1) hK hS (by decide) (by omega) hL4 dL_law_1492 ?_
  refine V.aload_n (pc := 1493) (i := 0) hK rfl ⟨_, rfl⟩ dL_law_1493 ?_
  refine V.iload_n (pc := 1494) (i := 3) hK rfl dL_law_1494 ?_
  refine V.iconst (pc := 1495) (v := 2) hK (by decide) dL_law_1495 ?_
  refine V.iadd (pc := 1496) hK dL_law_1496 ?_
  refine V.sld (pc := 1497) (k := 2) hK hS (by decide) (by omega) hL4 dL_law_1497 ?_
  refine V.cV (pc := 1498) (ci := 11) hK (c_X11_odds E hL N _ _ _ hx) Y_X11_odds cv_RL_141 (by decide) rfl (hL.1 0 _ ls_0) dL_law_1498 (by decide) rfl (Nat.le_of_ble_eq_true rfl) ?_
  refine V.aload_n (pc := 1501) (i := 2) hK rfl ⟨_, rfl⟩ dL_law_1501 ?_
  refine V.aload_n (pc := 1502) (i := 0) hK rfl ⟨_, rfl⟩ dL_law_1502 ?_
  refine V.iload_n (pc := 1503) (i := 3) hK rfl dL_law_1503 ?_
  refine V.iconst (pc := 1504) (v := 1) hK (by decide) dL_law_1504 ?_
  refine V.iadd (pc := 1505) hK dL_law_1505 ?_
  refine V.sld (pc := 1506) (k := 1) hK hS (by decide) (by omega) hL4 dL_law_1506 ?_
  refine V.aload_n (pc := 1507) (i := 0) hK rfl ⟨_, rfl⟩ dL_law_1507 ?_
  refine V.iload_n (pc := 1508) (i := 3) hK rfl dL_law_1508 ?_
  refine V.iconst (pc := 1509) (v := 2) hK (by decide) dL_law_1509 ?_
  refine V.iadd (pc := 1510) hK dL_law_1510 ?_
  refine V.sld (pc := 1511) (k := 2) hK hS (by decide) (by omega) hL4 dL_law_1511 ?_
  refine V.cV (pc := 1512) (ci := 12) hK (c_X12_odds E hL N _ _ _ hm) Y_X12_odds cv_RL_144 (by decide) rfl (hL.1 79 _ ls_79) dL_law_1512 (by decide) rfl (Nat.le_of_ble_eq_true rfl) ?_
  exact V.icmp_eq (pc := 1515) (tgt := 1632) hK dL_law_1515 (by decide) (fun _ => kk) (fun c => absurd rfl c)
set_option maxHeartbeats 4000000 in
set_option maxRecDepth 100000 in
theorem law_30 {E : v_E} {X : v_X} {bb L i : Nat} {xs : Nat → Int32} (hK : v_K E X cL_law RL 4 1300) (hS : v_Sc E X bb L xs) (hL4 : L ≤ 4096) (hi : i + 8 ≤ L) {b1 b2 : Nat} {sh : v_S} {P : v_P} {M M1 M2 : v_M} (hL : v_Lay sh P) {N : Nat} {r : Int32} (hx : f_X11_first N (xs (i + 1)) (xs (i + 2)) (xs (i + 3)) M = some (r, M1)) (hm : f_X12_first N (xs (i + 1)) (xs (i + 2)) (xs (i + 3)) M1 = some (r, M2)) (kk : V E X (b1, b2) 1632 [(0, .ref bb), (1, v_rf E 0), (2, v_rf E 79), (3, .int (nI i))] [] sh P M2) : V E X (b1 + 7, b2 + 1967) 1520 [(0, .ref bb), (1, v_rf E 0), (2, v_rf E 79), (3, .int (nI i))] [] sh P M := by
  refine V.bud (b1, b2) ⟨Nat.le_add_right _ _, Nat.le_add_right _ _⟩ ?_
  refine V.aload_n (pc := 1520) (i := 1) hK rfl ⟨_, rfl⟩ dL_law_1520 ?_
  refine V.aload_n (pc := 1521) (i := 0) hK rfl ⟨_, rfl⟩ dL_law_1521 ?_
  refine V.iload_n (pc := 1522) (i := 3) hK rfl dL_law_1522 ?_
  refine V.iconst (pc := 1523) (v := 1) hK (by decide) dL_law_1523 ?_
  refine V.iadd (pc := 1524) hK dL_law_1524 ?_
  refine V.sld (pc := 1525) (k := 1) hK hS (by decide) (by omega) hL4 dL_law_1525 ?_
  refine V.aload_n (pc := 1526) (i := 0) hK rfl ⟨_, rfl⟩ dL_law_1526 ?_
  refine V.iload_n (pc := 1527) (i := 3) hK rfl dL_law_1527 ?_
  refine V.iconst (pc := 1528) (v := 2) hK (by decide) dL_law_1528 ?_
  refine V.iadd (pc := 1529) hK dL_law_1529 ?_
  refine V.sld (pc := 1530) (k := 2) hK hS (by decide) (by omega) hL4 dL_law_1530 ?_
  refine V.aload_n (pc := 1531) (i := 0) hK rfl ⟨_, rfl⟩ dL_law_1531 ?_
  refine V.iload_n (pc := 1532) (i := 3) hK rfl dL_law_1532 ?_
  refine V.iconst (pc := 1533) (v := 3) hK (by decide) dL_law_1533 ?_
  refine V.iadd (pc := 1534) hK dL_law_1534 ?_
  refine V.sld (pc := 1535) (k := 3) hK hS (by decide) (by omega) hL4 dL_law_1535 ?_
  refine V.cV (pc := 1536) (ci := 11) hK (c_X11_first E hL N _ _ _ _ hx) Y_X11_first cv_RL_145 (by decide) rfl (hL.1 0 _ ls_0) dL_law_1536 (by decide) rfl (Nat.le_of_ble_eq_true rfl) ?_
  refine V.aload_n (pc := 1539) (i := 2) hK rfl ⟨_, rfl⟩ dL_law_1539 ?_
  refine V.aload_n (pc := 1540) (i := 0) hK rfl ⟨_, rfl⟩ dL_law_1540 ?_
  refine V.iload_n (pc := 1541) (i := 3) hK rfl dL_law_1541 ?_
  refine V.iconst (pc := 1542) (v := 1) hK (by decide) dL_law_1542 ?_
  refine V.iadd (pc := 1543) hK dL_law_1543 ?_
  refine V.sld (pc := 1544) (k := 1) hK hS (by decide) (by omega) hL4 dL_law_1544 ?_
  refine V.aload_n (pc := 1545) (i := 0) hK rfl ⟨_, rfl⟩ dL_law_1545 ?_
  refine V.iload_n (pc := 1546) (i := 3) hK rfl dL_law_1546 ?_
  refine V.iconst (pc := 1547) (v := 2) hK (by decide) dL_law_1547 ?_
  refine V.iadd (pc := 1548) hK dL_law_1548 ?_
  refine V.sld (pc := 1549) (k := 2) hK hS (by decide) (by omega) hL4 dL_law_1549 ?_
  refine V.aload_n (pc := 1550) (i := 0) hK rfl ⟨_, rfl⟩ dL_law_1550 ?_
  refine V.iload_n (pc := 1551) (i := 3) hK rfl dL_law_1551 ?_
  refine V.iconst (pc := 1552) (v := 3) hK (by decide) dL_law_1552 ?_
  refine V.iadd (pc := 1553) hK dL_law_1553 ?_
  refine V.sld (pc := 1554) (k := 3) hK hS (by decide) (by omega) hL4 dL_law_1554 ?_
  refine V.cV (pc := 1555) (ci := 12) hK (c_X12_first E hL N _ _ _ _ hm) Y_X12_first cv_RL_148 (by decide) rfl (hL.1 79 _ ls_79) dL_law_1555 (by decide) rfl (Nat.le_of_ble_eq_true rfl) ?_
  exact V.icmp_eq (pc := 1558) (tgt := 1632) hK dL_law_1558 (by decide) (fun _ => kk) (fun c => absurd rfl c)
set_option maxHeartbeats 4000000 in
set_option maxRecDepth 100000 in
theorem law_31 {E : v_E} {X : v_X} {bb L i : Nat} {xs : Nat → Int32} (hK : v_K E X cL_law RL 4 1300) (hS : v_Sc E X bb L xs) (hL4 : L ≤ 4096) (hi : i + 8 ≤ L) {b1 b2 : Nat} {sh sh2 : v_S} {P P2 : v_P} {M M1 M2 : v_M} (hL : v_Lay sh P) (hPO : v_PO sh P) (hL2 : v_Lay sh2 P2) {N : Nat} {r : Int32} (hx : f_X11_mark N sh P (xs (i + 1)) M = some (r, (sh2, P2, M1))) (hm : f_X12_mark N (xs (i + 1)) M1 = some (r, M2)) (kk : V E X (b1, b2) 1632 [(0, .ref bb), (1, v_rf E 0), (2, v_rf E 79), (3, .int (nI i))] [] sh2 P2 M2) : V E X (b1 + 7, b2 + 1967) 1563 [(0, .ref bb), (1, v_rf E 0), (2, v_rf E 79), (3, .int (nI i))] [] sh P M := by
  refine V.aload_n (pc := 1563) (i := 1) hK rfl ⟨_, rfl⟩ dL_law_1563 ?_
  refine V.aload_n (pc := 1564) (i := 0) hK rfl ⟨_, rfl⟩ dL_law_1564 ?_
  refine V.iload_n (pc := 1565) (i := 3) hK rfl dL_law_1565 ?_
  refine V.iconst (pc := 1566) (v := 1) hK (by decide) dL_law_1566 ?_
  refine V.iadd (pc := 1567) hK dL_law_1567 ?_
  refine V.sld (pc := 1568) (k := 1) hK hS (by decide) (by omega) hL4 dL_law_1568 ?_
  refine V.callV (pc := 1569) (ci := 11) (mc := 7) (ms := 1967) (rest := []) hK (c_X11_mark E hL hPO N _ _ hx) Y_X11_mark cv_RL_149 (by decide) rfl (hL.1 0 _ ls_0) dL_law_1569 (by decide) rfl (Nat.le_of_ble_eq_true rfl) ⟨Nat.le_add_left _ _, Nat.le_trans (by decide) (Nat.le_add_left _ _)⟩ (fun v s p mm hv => ?_)
  obtain ⟨rfl, rfl, rfl, rfl⟩ := hv
  refine V.bud (b1, b2) ⟨by show b1 ≤ b1 + 7 - 7; omega, by show b2 ≤ b2 + 1967 - 1967; omega⟩ ?_
  refine V.aload_n (pc := 1572) (i := 2) hK rfl ⟨_, rfl⟩ dL_law_1572 ?_
  refine V.aload_n (pc := 1573) (i := 0) hK rfl ⟨_, rfl⟩ dL_law_1573 ?_
  refine V.iload_n (pc := 1574) (i := 3) hK rfl dL_law_1574 ?_
  refine V.iconst (pc := 1575) (v := 1) hK (by decide) dL_law_1575 ?_
  refine V.iadd (pc := 1576) hK dL_law_1576 ?_
  refine V.sld (pc := 1577) (k := 1) hK hS (by decide) (by omega) hL4 dL_law_1577 ?_
  refine V.cV (pc := 1578) (ci := 12) hK (c_X12_mark E hL2 N _ _ hm) Y_X12_mark cv_RL_152 (by decide) rfl (hL2.1 79 _ ls_79) dL_law_1578 (by decide) rfl (Nat.le_of_ble_eq_true rfl) ?_
  exact V.icmp_eq (pc := 1581) (tgt := 1632) hK dL_law_1581 (by decide) (fun _ => kk) (fun c => absurd rfl c)
set_option maxHeartbeats 4000000 in
set_option maxRecDepth 100000 in
theorem law_32 {E : v_E} {X : v_X} {bb L i : Nat} {xs : Nat → Int32} (hK : v_K E X cL_law RL 4 1300) (hS : v_Sc E X bb L xs) (hL4 : L ≤ 4096) (hi : i + 8 ≤ L) {b1 b2 : Nat} {sh : v_S} {P : v_P} {M M1 M2 : v_M} (hL : v_Lay sh P) (hPO : v_PO sh P) {N : Nat} {r : Int32} (hx : f_X11_back N P (xs (i + 1)) M = some (r, M1)) (hm : f_X12_back N (xs (i + 1)) M1 = some (r, M2)) (kk : V E X (b1, b2) 1632 [(0, .ref bb), (1, v_rf E 0), (2, v_rf E 79), (3, .int (nI i))] [] sh P M2) : V E X (b1 + 7, b2 + 1967) 1586 [(0, .ref bb), (1, v_rf E 0), (2, v_rf E 79), (3, .int (nI i))] [] sh P M := by
  refine V.bud (b1, b2) ⟨Nat.le_add_right _ _, Nat.le_add_right _ _⟩ ?_
  refine V.aload_n (pc := 1586) (i := 1) hK rfl ⟨_, rfl⟩ dL_law_1586 ?_
  refine V.aload_n (pc := 1587) (i := 0) hK rfl ⟨_, rfl⟩ dL_law_1587 ?_
  refine V.iload_n (pc := 1588) (i := 3) hK rfl dL_law_1588 ?_
  refine V.iconst (pc := 1589) (v := 1) hK (by decide) dL_law_1589 ?_
  refine V.iadd (pc := 1590) hK dL_law_1590 ?_
  refine V.sld (pc := 1591) (k := 1) hK hS (by decide) (by omega) hL4 dL_law_1591 ?_
  refine V.cV (pc := 1592) (ci := 11) hK (c_X11_back E hL N hPO _ _ hx) Y_X11_back cv_RL_153 (by decide) rfl (hL.1 0 _ ls_0) dL_law_1592 (by decide) rfl (Nat.le_of_ble_eq_true rfl) ?_
  refine V.aload_n (pc := 1595) (i := 2) hK rfl ⟨_, rfl⟩ dL_law_1595 ?_
  refine V.aload_n (pc := 1596) (i := 0) hK rfl ⟨_, rfl⟩ dL_law_1596 ?_
  refine V.iload_n (pc := 1597) (i := 3) hK rfl dL_law_1597 ?_
  refine V.iconst (pc := 1598) (v := 1) hK (by decide) dL_law_1598 ?_
  refine V.iadd (pc := 1599) hK dL_law_1599 ?_
  refine V.sld (pc := 1600) (k := 1) hK hS (by decide) (by omega) hL4 dL_law_1600 ?_
  refine V.cV (pc := 1601) (ci := 12) hK (c_X12_back E hL N _ _ hm) Y_X12_back cv_RL_156 (by decide) rfl (hL.1 79 _ ls_79) dL_law_1601 (by decide) rfl (Nat.le_of_ble_eq_true rfl) ?_
  exact V.icmp_eq (pc := 1604) (tgt := 1632) hK dL_law_1604 (by decide) (fun _ => kk) (fun c => absurd rfl c)
set_option maxHeartbeats 4000000 in
set_option maxRecDepth 100000 in
theorem law_33 {E : v_E} {X : v_X} {bb L i : Nat} {xs : Nat → Int32} (hK : v_K E X cL_law RL 4 1300) (hS : v_Sc E X bb L xs) (hL4 : L ≤ 4096) (hi : i + 8 ≤ L) {b1 b2 : Nat} {sh : v_S} {P : v_P} {M M1 M2 : v_M} (hL : v_Lay sh P) {N : Nat} {r : Int32} (hx : f_X11_count N (xs (i + 1)) M = some (r, M1)) (hm : f_X12_count N (xs (i + 1)) M1 = some (r, M2)) (kk : V E X (b1, b2) 1632 [(0, .ref bb), (1, v_rf E 0), (2, v_rf E 79), (3, .int (nI i))] [] sh P M2) : V E X (b1 + 7, b2 + 1967) 1609 [(0, .ref bb), (1, v_rf E 0), (2, v_rf E 79), (3, .int (nI i))] [] sh P M := by
  refine V.bud (b1, b2) ⟨Nat.le_add_right _ _, Nat.le_add_right _ _⟩ ?_
  refine V.aload_n (pc := 1609) (i := 1) hK rfl ⟨_, rfl⟩ dL_law_1609 ?_
  refine V.aload_n (pc := 1610) (i := 0) hK rfl ⟨_, rfl⟩ dL_law_1610 ?_
  refine V.iload_n (pc := 1611) (i := 3) hK rfl dL_law_1611 ?_
  refine V.iconst (pc := 1612) (v := 1) hK (by decide) dL_law_1612 ?_
  refine V.iadd (pc := 1613) hK dL_law_1613 ?_
  refine V.sld (pc := 1614) (k := 1) hK hS (by decide) (by omega) hL4 dL_law_1614 ?_
  refine V.cV (pc := 1615) (ci := 11) hK (c_X11_count E hL N _ _ hx) Y_X11_count cv_RL_157 (by decide) rfl (hL.1 0 _ ls_0) dL_law_1615 (by decide) rfl (Nat.le_of_ble_eq_true rfl) ?_
  refine V.aload_n (pc := 1618) (i := 2) hK rfl ⟨_, rfl⟩ dL_law_1618 ?_
  refine V.aload_n (pc := 1619) (i := 0) hK rfl ⟨_, rfl⟩ dL_law_1619 ?_
  refine V.iload_n (pc := 1620) (i := 3) hK rfl dL_law_1620 ?_
  refine V.iconst (pc := 1621) (v := 1) hK (by decide) dL_law_1621 ?_
  refine V.iadd (pc := 1622) hK dL_law_1622 ?_
  refine V.sld (pc := 1623) (k := 1) hK hS (by decide) (by omega) hL4 dL_law_1623 ?_
  refine V.cV (pc := 1624) (ci := 12) hK (c_X12_count E hL N _ _ hm) Y_X12_count cv_RL_160 (by decide) rfl (hL.1 79 _ ls_79) dL_law_1624 (by decide) rfl (Nat.le_of_ble_eq_true rfl) ?_
  exact V.icmp_eq (pc := 1627) (tgt := 1632) hK dL_law_1627 (by decide) (fun _ => kk) (fun c => absurd rfl c)
/-- one call of the script: the class answers, the reference answers the same -/
def v_Step (N qo : Nat) (k : Nat) (a : Nat → Int32) (sh : v_S) (P : v_P) (M : v_M) (sh2 : v_S) (P2 : v_P) (M2 : v_M) : Prop := match k with
  | 0 => sh2 = sh ∧ P2 = P ∧ ∃ (r : Int32) (M1 : v_M), f_X11_clock N (a 1) M = some (r, M1) ∧ f_X12_clock N (a 1) M1 = some (r, M2)
  | 1 => sh2 = sh ∧ P2 = P ∧ ∃ (r : Int32) (M1 : v_M), f_X11_part N (a 1) (a 2) (a 3) (a 4) (a 5) (a 6) (a 7) M = some (r, M1) ∧ f_X12_part N (a 1) (a 2) (a 3) (a 4) (a 5) (a 6) (a 7) M1 = some (r, M2)
  | 2 => sh2 = sh ∧ P2 = P ∧ ∃ (r : Int32) (M1 : v_M), f_X11_machine N M = some (r, M1) ∧ f_X12_machine N M1 = some (r, M2)
  | 3 => sh2 = sh ∧ P2 = P ∧ ∃ (r : Int32) (M1 : v_M), f_X11_turn N (a 1) (a 2) (a 3) (a 4) M = some (r, M1) ∧ f_X12_turn N (a 1) (a 2) (a 3) (a 4) M1 = some (r, M2)
  | 4 => sh2 = sh ∧ P2 = P ∧ ∃ (r : Int32) (M1 : v_M), f_X11_anew N (a 1) (a 2) M = some (r, M1) ∧ f_X12_anew N (a 1) (a 2) M1 = some (r, M2)
  | 5 => sh2 = sh ∧ P2 = P ∧ ∃ (r : Int32) (M1 : v_M), f_X11_push N (a 1) (a 2) (a 3) M = some (r, M1) ∧ f_X12_push N (a 1) (a 2) (a 3) M1 = some (r, M2)
  | 6 => sh2 = sh ∧ P2 = P ∧ ∃ (r : Int32) (M1 : v_M), f_X11_release N (a 1) M = some (r, M1) ∧ f_X12_release N (a 1) M1 = some (r, M2)
  | 7 => sh2 = sh ∧ P2 = P ∧ ∃ (r : Int32) (M1 : v_M), f_X11_state N (a 1) (a 2) (a 3) M = some (r, M1) ∧ f_X12_state N (a 1) (a 2) (a 3) M1 = some (r, M2)
  | 8 => sh2 = sh ∧ P2 = P ∧ ∃ (r : Int32) (M1 : v_M), f_X11_judged N (a 1) (a 2) (a 3) M = some (r, M1) ∧ f_X12_judged N (a 1) (a 2) (a 3) M1 = some (r, M2)
  | 9 => sh2 = sh ∧ P2 = P ∧ ∃ (r : Int32) (M1 : v_M), f_X11_tried N (a 1) (a 2) (a 3) (a 4) (a 5) (a 6) (a 7) M = some (r, M1) ∧ f_X12_tried N (a 1) (a 2) (a 3) (a 4) (a 5) (a 6) (a 7) M1 = some (r, M2)
  | 10 => sh2 = sh ∧ P2 = P ∧ ∃ (r : Int32) (M1 : v_M), f_X11_change N (a 1) (a 2) (a 3) (a 4) (a 5) M = some (r, M1) ∧ f_X12_change N (a 1) (a 2) (a 3) (a 4) (a 5) M1 = some (r, M2)
  | 11 => sh2 = sh ∧ P2 = P ∧ ∃ (r : Int32) (M1 : v_M), f_X11_cheapest N (a 1) (a 2) (a 3) (a 4) (a 5) (a 6) M = some (r, M1) ∧ f_X12_cheapest N (a 1) (a 2) (a 3) (a 4) (a 5) (a 6) M1 = some (r, M2)
  | 12 => sh2 = sh ∧ P2 = P ∧ ∃ (r : Int32) (M1 : v_M), f_X11_goes N (a 1) (a 2) (a 3) M = some (r, M1) ∧ f_X12_goes N (a 1) (a 2) (a 3) M1 = some (r, M2)
  | 13 => sh2 = sh ∧ P2 = P ∧ ∃ (r : Int32) (M1 : v_M), f_X11_floor N (a 1) (a 2) (a 3) (a 4) (a 5) (a 6) (a 7) M = some (r, M1) ∧ f_X12_floor N (a 1) (a 2) (a 3) (a 4) (a 5) (a 6) (a 7) M1 = some (r, M2)
  | 14 => sh2 = sh ∧ P2 = P ∧ ∃ (r : Int32) (M1 : v_M), f_X11_feed N (a 1) (a 2) (a 3) (a 4) (a 5) M = some (r, M1) ∧ f_X12_feed N (a 1) (a 2) (a 3) (a 4) (a 5) M1 = some (r, M2)
  | 15 => sh2 = sh ∧ P2 = P ∧ ∃ (r : Int32) (M1 : v_M), f_X11_end N (a 1) M = some (r, M1) ∧ f_X12_end N (a 1) M1 = some (r, M2)
  | 16 => ∃ (r : Int32) (M1 : v_M), f_X11_order N qo sh P (a 1) (a 2) M = some (r, (sh2, P2, M1)) ∧ f_X12_order N (a 1) (a 2) M1 = some (r, M2)
  | 17 => sh2 = sh ∧ P2 = P ∧ ∃ (r : Int32) (M1 : v_M), f_X11_takes N P (a 1) (a 2) (v_nb (a 3)) M = some (r, M1) ∧ f_X12_takes__ N (a 1) (a 2) (v_nb (a 3)) M1 = some (r, M2)
  | 18 => sh2 = sh ∧ P2 = P ∧ ∃ (r : Int32) (M1 : v_M), f_X11_bound N P (a 1) (a 2) M = some (r, M1) ∧ f_X12_bound N (a 1) (a 2) M1 = some (r, M2)
  | 19 => sh2 = sh ∧ P2 = P ∧ ∃ (r : Int32) (M1 : v_M), f_X11_stamp N (a 1) (a 2) (a 3) (a 4) M = some (r, M1) ∧ f_X12_stamp N (a 1) (a 2) (a 3) (a 4) M1 = some (r, M2)
  | 20 => sh2 = sh ∧ P2 = P ∧ ∃ (r : Int32) (M1 : v_M), f_X11_see N (a 1) (a 2) (a 3) (v_nb (a 4)) M = some (r, M1) ∧ f_X12_see N (a 1) (a 2) (a 3) (v_nb (a 4)) M1 = some (r, M2)
  | 21 => sh2 = sh ∧ P2 = P ∧ ∃ (r : Int32) (M1 : v_M), f_X11_fewest N M = some (r, M1) ∧ f_X12_fewest N M1 = some (r, M2)
  | 22 => sh2 = sh ∧ P2 = P ∧ ∃ (r : Int32) (M1 : v_M), f_X11_sure N (a 1) M = some (r, M1) ∧ f_X12_sure N (a 1) M1 = some (r, M2)
  | 23 => sh2 = sh ∧ P2 = P ∧ ∃ (r : Int32) (M1 : v_M), f_X11_paper N (a 1) (a 2) (a 3) M = some (r, M1) ∧ f_X12_paper N (a 1) (a 2) (a 3) M1 = some (r, M2)
  | 24 => sh2 = sh ∧ P2 = P ∧ ∃ (r : Int32) (M1 : v_M), f_X11_read N (a 1) (a 2) (a 3) M = some (r, M1) ∧ f_X12_read N (a 1) (a 2) (a 3) M1 = some (r, M2)
  | 25 => sh2 = sh ∧ P2 = P ∧ ∃ (r : Int32) (M1 : v_M), f_X11_knew N (a 1) (a 2) M = some (r, M1) ∧ f_X12_knew N (a 1) (a 2) M1 = some (r, M2)
  | 26 => sh2 = sh ∧ P2 = P ∧ ∃ (r : Int32) (M1 : v_M), f_X11_warned N (a 1) (a 2) M = some (r, M1) ∧ f_X12_warned N (a 1) (a 2) M1 = some (r, M2)
  | 27 => sh2 = sh ∧ P2 = P ∧ ∃ (r : Int32) (M1 : v_M), f_X11_wears N (a 1) (a 2) M = some (r, M1) ∧ f_X12_wears N (a 1) (a 2) M1 = some (r, M2)
  | 28 => sh2 = sh ∧ P2 = P ∧ ∃ (r : Int32) (M1 : v_M), f_X11_fly N (a 1) (a 2) M = some (r, M1) ∧ f_X12_fly N (a 1) (a 2) M1 = some (r, M2)
  | 29 => sh2 = sh ∧ P2 = P ∧ ∃ (r : Int32) (M1 : v_M), f_X11_odds N (a 1) (a 2) M = some (r, M1) ∧ f_X12_odds N (a 1) (a 2) M1 = some (r, M2)
  | 30 => sh2 = sh ∧ P2 = P ∧ ∃ (r : Int32) (M1 : v_M), f_X11_first N (a 1) (a 2) (a 3) M = some (r, M1) ∧ f_X12_first N (a 1) (a 2) (a 3) M1 = some (r, M2)
  | 31 => ∃ (r : Int32) (M1 : v_M), f_X11_mark N sh P (a 1) M = some (r, (sh2, P2, M1)) ∧ f_X12_mark N (a 1) M1 = some (r, M2)
  | 32 => sh2 = sh ∧ P2 = P ∧ ∃ (r : Int32) (M1 : v_M), f_X11_back N P (a 1) M = some (r, M1) ∧ f_X12_back N (a 1) M1 = some (r, M2)
  | 33 => sh2 = sh ∧ P2 = P ∧ ∃ (r : Int32) (M1 : v_M), f_X11_count N (a 1) M = some (r, M1) ∧ f_X12_count N (a 1) M1 = some (r, M2)
  | _ => sh2 = sh ∧ P2 = P ∧ M2 = M
