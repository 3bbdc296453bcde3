set_option maxHeartbeats 4000000 in
theorem law_0 {Rel : mm_M → mm_M → Prop} {p : Program} {l : Launch} {e : Env} {s : State} {m : MethodId} {below : List Frame} {meth : Method} {c : Code} {b L : Nat} {xs : Nat → Int32} {D : va_G} {cA : Nat → ClassId} {adC adR : Nat → Nat} {qo sa1 sa2 i : Nat} (hop : ∀ (a1 : Int32), op_i Rel (f_X11_days a1) (f_X12_days a1)) (hL : L ≤ 3584) (hi : i + 6 < L) (C0 : LwC p l s m meth c b L xs D cA adC adR qo sa1 sa2) (hnext : LwA Rel p l e s m below meth c b D cA adC adR qo i (140 + i + 7) (20000 + i + 7) 1624) : LwA Rel p l e s m below meth c b D cA adC adR qo i (140 + i) (20000 + i) 192 := by
  obtain ⟨hx, hb, hml, hr, hlocks, hown, hts, hK, hN, hX, hbl, hiC, hiR, hCR, hCo, hRo, hAC, hAR, hAo, hxK, hNc, hxZ, hlt⟩ := id C0
  have hbA : ¬ (fun q : Nat => s.heap.size ≤ q) b := Nat.not_le.mpr hbl
  have hroom : 140 + i ≤ room_1.cells ∧ 20000 + i ≤ room_1.slots := ⟨by show 140 + i ≤ 601024; omega, by show 20000 + i ≤ 7293034; omega⟩
  have h1 : vp_in (nI i + 1) L := lw_h (k := 1) rfl (by omega) hi hL
  have h2 : vp_in (nI i + 2) L := lw_h (k := 2) rfl (by omega) hi hL
  have h3 : vp_in (nI i + 3) L := lw_h (k := 3) rfl (by omega) hi hL
  have h4 : vp_in (nI i + 4) L := lw_h (k := 4) rfl (by omega) hi hL
  have h5 : vp_in (nI i + 5) L := lw_h (k := 5) rfl (by omega) hi hL
  have h6 : vp_in (nI i + 6) L := lw_h (k := 6) rfl (by omega) hi hL
  intro MC MR fo H locs ls hI
  obtain ⟨hR, hPC, hPR, hPo, hS, hl⟩ := hI
  refine lv_aload_n hx hb dL_192 rfl (lv_at hl 1 rfl) ?_
  refine lv_aload_n hx hb dL_193 rfl (lv_at hl 0 rfl) ?_
  refine lv_iload hx hb dL_194 (lv_at hl 4 rfl) ?_
  refine lv_iconst (v := 1) hx hb dL_196 (by decide) ?_
  refine lv_iadd hx hb dL_197 ?_
  refine va_sld hx hb hX hbl hbA hS h1 dL_198 ?_
  obtain ⟨r, MC1, MR1, hf, hg, hR1⟩ := hop ((xs (nI i + 1).toNatClampNeg)) MC MR hR
  refine wk_callV (Z := Y_X11_days) (as := [.int ((xs (nI i + 1).toNatClampNeg))]) (rest := []) (own := RL) (A0 := fun q => s.heap.size ≤ q) (H0 := s.heap) hx hb hml hts hown hK hN hiC lk_L_21 cv_X11_days ob_C_0 rfl (by decide) (by decide) (Nat.le_of_ble_eq_true rfl) hroom (ct_X11_days ((xs (nI i + 1).toNatClampNeg)) MC) hf hPC hS hAC hl.1 dL_199 rfl (fun H1 locs1 hPC hz1 hk1 hS => ?_)
  have hPR := wk_keep hPR (fun q h1 h2 => hk1 q h1 (hCR q h2))
  have hPo := wk_keepo hPo (fun h1 => hk1 qo h1 hCo)
  show W p l e room_1 s m #[.ref b] below meth c H1 locs1 _ _ _ (F0 m 202 ls [.int r])
  refine lv_aload_n hx hb dL_202 rfl (lv_at hl 2 rfl) ?_
  refine lv_aload_n hx hb dL_203 rfl (lv_at hl 0 rfl) ?_
  refine lv_iload hx hb dL_204 (lv_at hl 4 rfl) ?_
  refine lv_iconst (v := 1) hx hb dL_206 (by decide) ?_
  refine lv_iadd hx hb dL_207 ?_
  refine va_sld hx hb hX hbl hbA hS h1 dL_208 ?_
  refine wk_callV (Z := Y_X12_days) (as := [.int ((xs (nI i + 1).toNatClampNeg))]) (rest := [.int r]) (own := RL) (A0 := fun q => s.heap.size ≤ q) (H0 := s.heap) hx hb hml hts hown hK hN hiR lk_L_25 cv_X12_days ob_R_0 rfl (by decide) (by decide) (Nat.le_of_ble_eq_true rfl) hroom (ct_X12_days ((xs (nI i + 1).toNatClampNeg)) MR) hg hPR hS hAR hl.1 dL_209 rfl (fun H2 locs2 hPR hz2 hk2 hS => ?_)
  have hPC := wk_keep hPC (fun q h1 h2 => hk2 q h1 (fun h3 => hCR q h3 h2))
  have hPo := wk_keepo hPo (fun h1 => hk2 qo h1 hRo)
  show W p l e room_1 s m #[.ref b] below meth c H2 locs2 _ _ _ (F0 m 212 ls [.int r, .int r])
  refine lv_icmp_eq (tgt := 1624) hx hb dL_212 (by decide) (fun _ => ?_) (fun h => absurd rfl h)
  exact W.widen (by omega) (by omega) (hnext MC1 MR1 fo H2 locs2 ls ⟨hR1, hPC, hPR, hPo, hS, hl⟩)
set_option maxHeartbeats 4000000 in
theorem law_1 {Rel : mm_M → mm_M → Prop} {p : Program} {l : Launch} {e : Env} {s : State} {m : MethodId} {below : List Frame} {meth : Method} {c : Code} {b L : Nat} {xs : Nat → Int32} {D : va_G} {cA : Nat → ClassId} {adC adR : Nat → Nat} {qo sa1 sa2 i : Nat} (hop : ∀ (a1 : Int32) (a2 : Int32) (a3 : Int32) (a4 : Int32), op_i Rel (f_X11_shop a1 a2 a3 a4) (f_X12_shop a1 a2 a3 a4)) (hL : L ≤ 3584) (hi : i + 6 < L) (C0 : LwC p l s m meth c b L xs D cA adC adR qo sa1 sa2) (hnext : LwA Rel p l e s m below meth c b D cA adC adR qo i (140 + i + 7) (20000 + i + 7) 1624) : LwA Rel p l e s m below meth c b D cA adC adR qo i (140 + i) (20000 + i) 217 := by
  obtain ⟨hx, hb, hml, hr, hlocks, hown, hts, hK, hN, hX, hbl, hiC, hiR, hCR, hCo, hRo, hAC, hAR, hAo, hxK, hNc, hxZ, hlt⟩ := id C0
  have hbA : ¬ (fun q : Nat => s.heap.size ≤ q) b := Nat.not_le.mpr hbl
  have hroom : 140 + i ≤ room_1.cells ∧ 20000 + i ≤ room_1.slots := ⟨by show 140 + i ≤ 601024; omega, by show 20000 + i ≤ 7293034; omega⟩
  have h1 : vp_in (nI i + 1) L := lw_h (k := 1) rfl (by omega) hi hL
  have h2 : vp_in (nI i + 2) L := lw_h (k := 2) rfl (by omega) hi hL
  have h3 : vp_in (nI i + 3) L := lw_h (k := 3) rfl (by omega) hi hL
  have h4 : vp_in (nI i + 4) L := lw_h (k := 4) rfl (by omega) hi hL
  have h5 : vp_in (nI i + 5) L := lw_h (k := 5) rfl (by omega) hi hL
  have h6 : vp_in (nI i + 6) L := lw_h (k := 6) rfl (by omega) hi hL
  intro MC MR fo H locs ls hI
  obtain ⟨hR, hPC, hPR, hPo, hS, hl⟩ := hI
  refine lv_aload_n hx hb dL_217 rfl (lv_at hl 1 rfl) ?_
  refine lv_aload_n hx hb dL_218 rfl (lv_at hl 0 rfl) ?_
  refine lv_iload hx hb dL_219 (lv_at hl 4 rfl) ?_
  refine lv_iconst (v := 1) hx hb dL_221 (by decide) ?_
  refine lv_iadd hx hb dL_222 ?_
  refine va_sld hx hb hX hbl hbA hS h1 dL_223 ?_
  refine lv_aload_n hx hb dL_224 rfl (lv_at hl 0 rfl) ?_
  refine lv_iload hx hb dL_225 (lv_at hl 4 rfl) ?_
  refine lv_iconst (v := 2) hx hb dL_227 (by decide) ?_
  refine lv_iadd hx hb dL_228 ?_
  refine va_sld hx hb hX hbl hbA hS h2 dL_229 ?_
  refine lv_aload_n hx hb dL_230 rfl (lv_at hl 0 rfl) ?_
  refine lv_iload hx hb dL_231 (lv_at hl 4 rfl) ?_
  refine lv_iconst (v := 3) hx hb dL_233 (by decide) ?_
  refine lv_iadd hx hb dL_234 ?_
  refine va_sld hx hb hX hbl hbA hS h3 dL_235 ?_
  refine lv_aload_n hx hb dL_236 rfl (lv_at hl 0 rfl) ?_
  refine lv_iload hx hb dL_237 (lv_at hl 4 rfl) ?_
  refine lv_iconst (v := 4) hx hb dL_239 (by decide) ?_
  refine lv_iadd hx hb dL_240 ?_
  refine va_sld hx hb hX hbl hbA hS h4 dL_241 ?_
  obtain ⟨r, MC1, MR1, hf, hg, hR1⟩ := hop ((xs (nI i + 1).toNatClampNeg)) ((xs (nI i + 2).toNatClampNeg)) ((xs (nI i + 3).toNatClampNeg)) ((xs (nI i + 4).toNatClampNeg)) MC MR hR
  refine wk_callV (Z := Y_X11_shop) (as := [.int ((xs (nI i + 1).toNatClampNeg)), .int ((xs (nI i + 2).toNatClampNeg)), .int ((xs (nI i + 3).toNatClampNeg)), .int ((xs (nI i + 4).toNatClampNeg))]) (rest := []) (own := RL) (A0 := fun q => s.heap.size ≤ q) (H0 := s.heap) hx hb hml hts hown hK hN hiC lk_L_26 cv_X11_shop ob_C_0 rfl (by decide) (by decide) (Nat.le_of_ble_eq_true rfl) hroom (ct_X11_shop ((xs (nI i + 1).toNatClampNeg)) ((xs (nI i + 2).toNatClampNeg)) ((xs (nI i + 3).toNatClampNeg)) ((xs (nI i + 4).toNatClampNeg)) MC) hf hPC hS hAC hl.1 dL_242 rfl (fun H1 locs1 hPC hz1 hk1 hS => ?_)
  have hPR := wk_keep hPR (fun q h1 h2 => hk1 q h1 (hCR q h2))
  have hPo := wk_keepo hPo (fun h1 => hk1 qo h1 hCo)
  show W p l e room_1 s m #[.ref b] below meth c H1 locs1 _ _ _ (F0 m 245 ls [.int r])
  refine lv_aload_n hx hb dL_245 rfl (lv_at hl 2 rfl) ?_
  refine lv_aload_n hx hb dL_246 rfl (lv_at hl 0 rfl) ?_
  refine lv_iload hx hb dL_247 (lv_at hl 4 rfl) ?_
  refine lv_iconst (v := 1) hx hb dL_249 (by decide) ?_
  refine lv_iadd hx hb dL_250 ?_
  refine va_sld hx hb hX hbl hbA hS h1 dL_251 ?_
  refine lv_aload_n hx hb dL_252 rfl (lv_at hl 0 rfl) ?_
  refine lv_iload hx hb dL_253 (lv_at hl 4 rfl) ?_
  refine lv_iconst (v := 2) hx hb dL_255 (by decide) ?_
  refine lv_iadd hx hb dL_256 ?_
  refine va_sld hx hb hX hbl hbA hS h2 dL_257 ?_
  refine lv_aload_n hx hb dL_258 rfl (lv_at hl 0 rfl) ?_
  refine lv_iload hx hb dL_259 (lv_at hl 4 rfl) ?_
  refine lv_iconst (v := 3) hx hb dL_261 (by decide) ?_
  refine lv_iadd hx hb dL_262 ?_
  refine va_sld hx hb hX hbl hbA hS h3 dL_263 ?_
  refine lv_aload_n hx hb dL_264 rfl (lv_at hl 0 rfl) ?_
  refine lv_iload hx hb dL_265 (lv_at hl 4 rfl) ?_
  refine lv_iconst (v := 4) hx hb dL_267 (by decide) ?_
  refine lv_iadd hx hb dL_268 ?_
  refine va_sld hx hb hX hbl hbA hS h4 dL_269 ?_
  refine wk_callV (Z := Y_X12_shop) (as := [.int ((xs (nI i + 1).toNatClampNeg)), .int ((xs (nI i + 2).toNatClampNeg)), .int ((xs (nI i + 3).toNatClampNeg)), .int ((xs (nI i + 4).toNatClampNeg))]) (rest := [.int r]) (own := RL) (A0 := fun q => s.heap.size ≤ q) (H0 := s.heap) hx hb hml hts hown hK hN hiR lk_L_30 cv_X12_shop ob_R_0 rfl (by decide) (by decide) (Nat.le_of_ble_eq_true rfl) hroom (ct_X12_shop ((xs (nI i + 1).toNatClampNeg)) ((xs (nI i + 2).toNatClampNeg)) ((xs (nI i + 3).toNatClampNeg)) ((xs (nI i + 4).toNatClampNeg)) MR) hg hPR hS hAR hl.1 dL_270 rfl (fun H2 locs2 hPR hz2 hk2 hS => ?_)
  have hPC := wk_keep hPC (fun q h1 h2 => hk2 q h1 (fun h3 => hCR q h3 h2))
  have hPo := wk_keepo hPo (fun h1 => hk2 qo h1 hRo)
  show W p l e room_1 s m #[.ref b] below meth c H2 locs2 _ _ _ (F0 m 273 ls [.int r, .int r])
  refine lv_icmp_eq (tgt := 1624) hx hb dL_273 (by decide) (fun _ => ?_) (fun h => absurd rfl h)
  exact W.widen (by omega) (by omega) (hnext MC1 MR1 fo H2 locs2 ls ⟨hR1, hPC, hPR, hPo, hS, hl⟩)
set_option maxHeartbeats 4000000 in
theorem law_2 {Rel : mm_M → mm_M → Prop} {p : Program} {l : Launch} {e : Env} {s : State} {m : MethodId} {below : List Frame} {meth : Method} {c : Code} {b L : Nat} {xs : Nat → Int32} {D : va_G} {cA : Nat → ClassId} {adC adR : Nat → Nat} {qo sa1 sa2 i : Nat} (hop : ∀ (a1 : Int32) (a2 : Int32), op_i Rel (f_X11_weight a1 a2) (f_X12_weight a1 a2)) (hL : L ≤ 3584) (hi : i + 6 < L) (C0 : LwC p l s m meth c b L xs D cA adC adR qo sa1 sa2) (hnext : LwA Rel p l e s m below meth c b D cA adC adR qo i (140 + i + 7) (20000 + i + 7) 1624) : LwA Rel p l e s m below meth c b D cA adC adR qo i (140 + i) (20000 + i) 278 := by
  obtain ⟨hx, hb, hml, hr, hlocks, hown, hts, hK, hN, hX, hbl, hiC, hiR, hCR, hCo, hRo, hAC, hAR, hAo, hxK, hNc, hxZ, hlt⟩ := id C0
  have hbA : ¬ (fun q : Nat => s.heap.size ≤ q) b := Nat.not_le.mpr hbl
  have hroom : 140 + i ≤ room_1.cells ∧ 20000 + i ≤ room_1.slots := ⟨by show 140 + i ≤ 601024; omega, by show 20000 + i ≤ 7293034; omega⟩
  have h1 : vp_in (nI i + 1) L := lw_h (k := 1) rfl (by omega) hi hL
  have h2 : vp_in (nI i + 2) L := lw_h (k := 2) rfl (by omega) hi hL
  have h3 : vp_in (nI i + 3) L := lw_h (k := 3) rfl (by omega) hi hL
  have h4 : vp_in (nI i + 4) L := lw_h (k := 4) rfl (by omega) hi hL
  have h5 : vp_in (nI i + 5) L := lw_h (k := 5) rfl (by omega) hi hL
  have h6 : vp_in (nI i + 6) L := lw_h (k := 6) rfl (by omega) hi hL
  intro MC MR fo H locs ls hI
  obtain ⟨hR, hPC, hPR, hPo, hS, hl⟩ := hI
  refine lv_aload_n hx hb dL_278 rfl (lv_at hl 1 rfl) ?_
  refine lv_aload_n hx hb dL_279 rfl (lv_at hl 0 rfl) ?_
  refine lv_iload hx hb dL_280 (lv_at hl 4 rfl) ?_
  refine lv_iconst (v := 1) hx hb dL_282 (by decide) ?_
  refine lv_iadd hx hb dL_283 ?_
  refine va_sld hx hb hX hbl hbA hS h1 dL_284 ?_
  refine lv_aload_n hx hb dL_285 rfl (lv_at hl 0 rfl) ?_
  refine lv_iload hx hb dL_286 (lv_at hl 4 rfl) ?_
  refine lv_iconst (v := 2) hx hb dL_288 (by decide) ?_
  refine lv_iadd hx hb dL_289 ?_
  refine va_sld hx hb hX hbl hbA hS h2 dL_290 ?_
  obtain ⟨r, MC1, MR1, hf, hg, hR1⟩ := hop ((xs (nI i + 1).toNatClampNeg)) ((xs (nI i + 2).toNatClampNeg)) MC MR hR
  refine wk_callV (Z := Y_X11_weight) (as := [.int ((xs (nI i + 1).toNatClampNeg)), .int ((xs (nI i + 2).toNatClampNeg))]) (rest := []) (own := RL) (A0 := fun q => s.heap.size ≤ q) (H0 := s.heap) hx hb hml hts hown hK hN hiC lk_L_31 cv_X11_weight ob_C_0 rfl (by decide) (by decide) (Nat.le_of_ble_eq_true rfl) hroom (ct_X11_weight ((xs (nI i + 1).toNatClampNeg)) ((xs (nI i + 2).toNatClampNeg)) MC) hf hPC hS hAC hl.1 dL_291 rfl (fun H1 locs1 hPC hz1 hk1 hS => ?_)
  have hPR := wk_keep hPR (fun q h1 h2 => hk1 q h1 (hCR q h2))
  have hPo := wk_keepo hPo (fun h1 => hk1 qo h1 hCo)
  show W p l e room_1 s m #[.ref b] below meth c H1 locs1 _ _ _ (F0 m 294 ls [.int r])
  refine lv_aload_n hx hb dL_294 rfl (lv_at hl 2 rfl) ?_
  refine lv_aload_n hx hb dL_295 rfl (lv_at hl 0 rfl) ?_
  refine lv_iload hx hb dL_296 (lv_at hl 4 rfl) ?_
  refine lv_iconst (v := 1) hx hb dL_298 (by decide) ?_
  refine lv_iadd hx hb dL_299 ?_
  refine va_sld hx hb hX hbl hbA hS h1 dL_300 ?_
  refine lv_aload_n hx hb dL_301 rfl (lv_at hl 0 rfl) ?_
  refine lv_iload hx hb dL_302 (lv_at hl 4 rfl) ?_
  refine lv_iconst (v := 2) hx hb dL_304 (by decide) ?_
  refine lv_iadd hx hb dL_305 ?_
  refine va_sld hx hb hX hbl hbA hS h2 dL_306 ?_
  refine wk_callV (Z := Y_X12_weight) (as := [.int ((xs (nI i + 1).toNatClampNeg)), .int ((xs (nI i + 2).toNatClampNeg))]) (rest := [.int r]) (own := RL) (A0 := fun q => s.heap.size ≤ q) (H0 := s.heap) hx hb hml hts hown hK hN hiR lk_L_35 cv_X12_weight ob_R_0 rfl (by decide) (by decide) (Nat.le_of_ble_eq_true rfl) hroom (ct_X12_weight ((xs (nI i + 1).toNatClampNeg)) ((xs (nI i + 2).toNatClampNeg)) MR) hg hPR hS hAR hl.1 dL_307 rfl (fun H2 locs2 hPR hz2 hk2 hS => ?_)
  have hPC := wk_keep hPC (fun q h1 h2 => hk2 q h1 (fun h3 => hCR q h3 h2))
  have hPo := wk_keepo hPo (fun h1 => hk2 qo h1 hRo)
  show W p l e room_1 s m #[.ref b] below meth c H2 locs2 _ _ _ (F0 m 310 ls [.int r, .int r])
  refine lv_icmp_eq (tgt := 1624) hx hb dL_310 (by decide) (fun _ => ?_) (fun h => absurd rfl h)
  exact W.widen (by omega) (by omega) (hnext MC1 MR1 fo H2 locs2 ls ⟨hR1, hPC, hPR, hPo, hS, hl⟩)
set_option maxHeartbeats 4000000 in
theorem law_3 {Rel : mm_M → mm_M → Prop} {p : Program} {l : Launch} {e : Env} {s : State} {m : MethodId} {below : List Frame} {meth : Method} {c : Code} {b L : Nat} {xs : Nat → Int32} {D : va_G} {cA : Nat → ClassId} {adC adR : Nat → Nat} {qo sa1 sa2 i : Nat} (hop : ∀ (a1 : Int32) (a2 : Int32), (a2 = 0 ∨ a2 = 1) → op_i Rel (f_X11_open a1 a2) (f_X12_open a1 a2)) (hL : L ≤ 3584) (hi : i + 6 < L) (C0 : LwC p l s m meth c b L xs D cA adC adR qo sa1 sa2) (hnext : LwA Rel p l e s m below meth c b D cA adC adR qo i (140 + i + 7) (20000 + i + 7) 1624) : LwA Rel p l e s m below meth c b D cA adC adR qo i (140 + i) (20000 + i) 315 := by
  obtain ⟨hx, hb, hml, hr, hlocks, hown, hts, hK, hN, hX, hbl, hiC, hiR, hCR, hCo, hRo, hAC, hAR, hAo, hxK, hNc, hxZ, hlt⟩ := id C0
  have hbA : ¬ (fun q : Nat => s.heap.size ≤ q) b := Nat.not_le.mpr hbl
  have hroom : 140 + i ≤ room_1.cells ∧ 20000 + i ≤ room_1.slots := ⟨by show 140 + i ≤ 601024; omega, by show 20000 + i ≤ 7293034; omega⟩
  have h1 : vp_in (nI i + 1) L := lw_h (k := 1) rfl (by omega) hi hL
  have h2 : vp_in (nI i + 2) L := lw_h (k := 2) rfl (by omega) hi hL
  have h3 : vp_in (nI i + 3) L := lw_h (k := 3) rfl (by omega) hi hL
  have h4 : vp_in (nI i + 4) L := lw_h (k := 4) rfl (by omega) hi hL
  have h5 : vp_in (nI i + 5) L := lw_h (k := 5) rfl (by omega) hi hL
  have h6 : vp_in (nI i + 6) L := lw_h (k := 6) rfl (by omega) hi hL
  intro MC MR fo H locs ls hI
  obtain ⟨hR, hPC, hPR, hPo, hS, hl⟩ := hI
  by_cases hz2 : xs (nI i + 2).toNatClampNeg = 0
  ·
    refine lv_aload_n hx hb dL_315 rfl (lv_at hl 1 rfl) ?_
    refine lv_aload_n hx hb dL_316 rfl (lv_at hl 0 rfl) ?_
    refine lv_iload hx hb dL_317 (lv_at hl 4 rfl) ?_
    refine lv_iconst (v := 1) hx hb dL_319 (by decide) ?_
    refine lv_iadd hx hb dL_320 ?_
    refine va_sld hx hb hX hbl hbA hS h1 dL_321 ?_
    refine lv_aload_n hx hb dL_322 rfl (lv_at hl 0 rfl) ?_
    refine lv_iload hx hb dL_323 (lv_at hl 4 rfl) ?_
    refine lv_iconst (v := 2) hx hb dL_325 (by decide) ?_
    refine lv_iadd hx hb dL_326 ?_
    refine va_sld hx hb hX hbl hbA hS h2 dL_327 ?_
    refine lv_if_eq (tgt := 335) hx hb dL_328 (by decide) (fun _ => ?_) (fun h => absurd hz2 h)
    refine lv_iconst (v := 0) hx hb dL_335 (by decide) ?_
    obtain ⟨r, MC1, MR1, hf, hg, hR1⟩ := hop ((xs (nI i + 1).toNatClampNeg)) ((0 : Int32)) (Or.inl rfl) MC MR hR
    refine wk_callV (Z := Y_X11_open) (as := [.int ((xs (nI i + 1).toNatClampNeg)), .int (0)]) (rest := []) (own := RL) (A0 := fun q => s.heap.size ≤ q) (H0 := s.heap) hx hb hml hts hown hK hN hiC lk_L_36 cv_X11_open ob_C_0 rfl (by decide) (by decide) (Nat.le_of_ble_eq_true rfl) hroom (ct_X11_open ((xs (nI i + 1).toNatClampNeg)) ((0 : Int32)) MC) hf hPC hS hAC hl.1 dL_336 rfl (fun H1 locs1 hPC hz1 hk1 hS => ?_)
    have hPR := wk_keep hPR (fun q h1 h2 => hk1 q h1 (hCR q h2))
    have hPo := wk_keepo hPo (fun h1 => hk1 qo h1 hCo)
    show W p l e room_1 s m #[.ref b] below meth c H1 locs1 _ _ _ (F0 m 339 ls [.int r])
    refine lv_aload_n hx hb dL_339 rfl (lv_at hl 2 rfl) ?_
    refine lv_aload_n hx hb dL_340 rfl (lv_at hl 0 rfl) ?_
    refine lv_iload hx hb dL_341 (lv_at hl 4 rfl) ?_
    refine lv_iconst (v := 1) hx hb dL_343 (by decide) ?_
    refine lv_iadd hx hb dL_344 ?_
    refine va_sld hx hb hX hbl hbA hS h1 dL_345 ?_
    refine lv_aload_n hx hb dL_346 rfl (lv_at hl 0 rfl) ?_
    refine lv_iload hx hb dL_347 (lv_at hl 4 rfl) ?_
    refine lv_iconst (v := 2) hx hb dL_349 (by decide) ?_
    refine lv_iadd hx hb dL_350 ?_
    refine va_sld hx hb hX hbl hbA hS h2 dL_351 ?_
    refine lv_if_eq (tgt := 359) hx hb dL_352 (by decide) (fun _ => ?_) (fun h => absurd hz2 h)
    refine lv_iconst (v := 0) hx hb dL_359 (by decide) ?_
    refine wk_callV (Z := Y_X12_open) (as := [.int ((xs (nI i + 1).toNatClampNeg)), .int (0)]) (rest := [.int r]) (own := RL) (A0 := fun q => s.heap.size ≤ q) (H0 := s.heap) hx hb hml hts hown hK hN hiR lk_L_40 cv_X12_open ob_R_0 rfl (by decide) (by decide) (Nat.le_of_ble_eq_true rfl) hroom (ct_X12_open ((xs (nI i + 1).toNatClampNeg)) ((0 : Int32)) MR) hg hPR hS hAR hl.1 dL_360 rfl (fun H2 locs2 hPR hz2 hk2 hS => ?_)
    have hPC := wk_keep hPC (fun q h1 h2 => hk2 q h1 (fun h3 => hCR q h3 h2))
    have hPo := wk_keepo hPo (fun h1 => hk2 qo h1 hRo)
    show W p l e room_1 s m #[.ref b] below meth c H2 locs2 _ _ _ (F0 m 363 ls [.int r, .int r])
    refine lv_icmp_eq (tgt := 1624) hx hb dL_363 (by decide) (fun _ => ?_) (fun h => absurd rfl h)
    exact W.widen (by omega) (by omega) (hnext MC1 MR1 fo H2 locs2 ls ⟨hR1, hPC, hPR, hPo, hS, hl⟩)
  ·
    refine lv_aload_n hx hb dL_315 rfl (lv_at hl 1 rfl) ?_
    refine lv_aload_n hx hb dL_316 rfl (lv_at hl 0 rfl) ?_
    refine lv_iload hx hb dL_317 (lv_at hl 4 rfl) ?_
    refine lv_iconst (v := 1) hx hb dL_319 (by decide) ?_
    refine lv_iadd hx hb dL_320 ?_
    refine va_sld hx hb hX hbl hbA hS h1 dL_321 ?_
    refine lv_aload_n hx hb dL_322 rfl (lv_at hl 0 rfl) ?_
    refine lv_iload hx hb dL_323 (lv_at hl 4 rfl) ?_
    refine lv_iconst (v := 2) hx hb dL_325 (by decide) ?_
    refine lv_iadd hx hb dL_326 ?_
    refine va_sld hx hb hX hbl hbA hS h2 dL_327 ?_
    refine lv_if_eq (tgt := 335) hx hb dL_328 (by decide) (fun h => absurd h hz2) (fun _ => ?_)
    refine lv_iconst (v := 1) hx hb dL_331 (by decide) ?_
    refine lv_goto (tgt := 336) hx hb dL_332 (by decide) ?_
    obtain ⟨r, MC1, MR1, hf, hg, hR1⟩ := hop ((xs (nI i + 1).toNatClampNeg)) ((1 : Int32)) (Or.inr rfl) MC MR hR
    refine wk_callV (Z := Y_X11_open) (as := [.int ((xs (nI i + 1).toNatClampNeg)), .int (1)]) (rest := []) (own := RL) (A0 := fun q => s.heap.size ≤ q) (H0 := s.heap) hx hb hml hts hown hK hN hiC lk_L_36 cv_X11_open ob_C_0 rfl (by decide) (by decide) (Nat.le_of_ble_eq_true rfl) hroom (ct_X11_open ((xs (nI i + 1).toNatClampNeg)) ((1 : Int32)) MC) hf hPC hS hAC hl.1 dL_336 rfl (fun H1 locs1 hPC hz1 hk1 hS => ?_)
    have hPR := wk_keep hPR (fun q h1 h2 => hk1 q h1 (hCR q h2))
    have hPo := wk_keepo hPo (fun h1 => hk1 qo h1 hCo)
    show W p l e room_1 s m #[.ref b] below meth c H1 locs1 _ _ _ (F0 m 339 ls [.int r])
    refine lv_aload_n hx hb dL_339 rfl (lv_at hl 2 rfl) ?_
    refine lv_aload_n hx hb dL_340 rfl (lv_at hl 0 rfl) ?_
    refine lv_iload hx hb dL_341 (lv_at hl 4 rfl) ?_
    refine lv_iconst (v := 1) hx hb dL_343 (by decide) ?_
    refine lv_iadd hx hb dL_344 ?_
    refine va_sld hx hb hX hbl hbA hS h1 dL_345 ?_
    refine lv_aload_n hx hb dL_346 rfl (lv_at hl 0 rfl) ?_
    refine lv_iload hx hb dL_347 (lv_at hl 4 rfl) ?_
    refine lv_iconst (v := 2) hx hb dL_349 (by decide) ?_
    refine lv_iadd hx hb dL_350 ?_
    refine va_sld hx hb hX hbl hbA hS h2 dL_351 ?_
    refine lv_if_eq (tgt := 359) hx hb dL_352 (by decide) (fun h => absurd h hz2) (fun _ => ?_)
    refine lv_iconst (v := 1) hx hb dL_355 (by decide) ?_
    refine lv_goto (tgt := 360) hx hb dL_356 (by decide) ?_
    refine wk_callV (Z := Y_X12_open) (as := [.int ((xs (nI i + 1).toNatClampNeg)), .int (1)]) (rest := [.int r]) (own := RL) (A0 := fun q => s.heap.size ≤ q) (H0 := s.heap) hx hb hml hts hown hK hN hiR lk_L_40 cv_X12_open ob_R_0 rfl (by decide) (by decide) (Nat.le_of_ble_eq_true rfl) hroom (ct_X12_open ((xs (nI i + 1).toNatClampNeg)) ((1 : Int32)) MR) hg hPR hS hAR hl.1 dL_360 rfl (fun H2 locs2 hPR hz2 hk2 hS => ?_)
    have hPC := wk_keep hPC (fun q h1 h2 => hk2 q h1 (fun h3 => hCR q h3 h2))
    have hPo := wk_keepo hPo (fun h1 => hk2 qo h1 hRo)
    show W p l e room_1 s m #[.ref b] below meth c H2 locs2 _ _ _ (F0 m 363 ls [.int r, .int r])
    refine lv_icmp_eq (tgt := 1624) hx hb dL_363 (by decide) (fun _ => ?_) (fun h => absurd rfl h)
    exact W.widen (by omega) (by omega) (hnext MC1 MR1 fo H2 locs2 ls ⟨hR1, hPC, hPR, hPo, hS, hl⟩)
set_option maxHeartbeats 4000000 in
theorem law_4 {Rel : mm_M → mm_M → Prop} {p : Program} {l : Launch} {e : Env} {s : State} {m : MethodId} {below : List Frame} {meth : Method} {c : Code} {b L : Nat} {xs : Nat → Int32} {D : va_G} {cA : Nat → ClassId} {adC adR : Nat → Nat} {qo sa1 sa2 i : Nat} (hop : ∀ (a1 : Int32), op_i Rel (f_X11_sell a1) (f_X12_sell a1)) (hL : L ≤ 3584) (hi : i + 6 < L) (C0 : LwC p l s m meth c b L xs D cA adC adR qo sa1 sa2) (hnext : LwA Rel p l e s m below meth c b D cA adC adR qo i (140 + i + 7) (20000 + i + 7) 1624) : LwA Rel p l e s m below meth c b D cA adC adR qo i (140 + i) (20000 + i) 368 := by
  obtain ⟨hx, hb, hml, hr, hlocks, hown, hts, hK, hN, hX, hbl, hiC, hiR, hCR, hCo, hRo, hAC, hAR, hAo, hxK, hNc, hxZ, hlt⟩ := id C0
  have hbA : ¬ (fun q : Nat => s.heap.size ≤ q) b := Nat.not_le.mpr hbl
  have hroom : 140 + i ≤ room_1.cells ∧ 20000 + i ≤ room_1.slots := ⟨by show 140 + i ≤ 601024; omega, by show 20000 + i ≤ 7293034; omega⟩
  have h1 : vp_in (nI i + 1) L := lw_h (k := 1) rfl (by omega) hi hL
  have h2 : vp_in (nI i + 2) L := lw_h (k := 2) rfl (by omega) hi hL
  have h3 : vp_in (nI i + 3) L := lw_h (k := 3) rfl (by omega) hi hL
  have h4 : vp_in (nI i + 4) L := lw_h (k := 4) rfl (by omega) hi hL
  have h5 : vp_in (nI i + 5) L := lw_h (k := 5) rfl (by omega) hi hL
  have h6 : vp_in (nI i + 6) L := lw_h (k := 6) rfl (by omega) hi hL
  intro MC MR fo H locs ls hI
  obtain ⟨hR, hPC, hPR, hPo, hS, hl⟩ := hI
  refine lv_aload_n hx hb dL_368 rfl (lv_at hl 1 rfl) ?_
  refine lv_aload_n hx hb dL_369 rfl (lv_at hl 0 rfl) ?_
  refine lv_iload hx hb dL_370 (lv_at hl 4 rfl) ?_
  refine lv_iconst (v := 1) hx hb dL_372 (by decide) ?_
  refine lv_iadd hx hb dL_373 ?_
  refine va_sld hx hb hX hbl hbA hS h1 dL_374 ?_
  obtain ⟨r, MC1, MR1, hf, hg, hR1⟩ := hop ((xs (nI i + 1).toNatClampNeg)) MC MR hR
  refine wk_callV (Z := Y_X11_sell) (as := [.int ((xs (nI i + 1).toNatClampNeg))]) (rest := []) (own := RL) (A0 := fun q => s.heap.size ≤ q) (H0 := s.heap) hx hb hml hts hown hK hN hiC lk_L_41 cv_X11_sell ob_C_0 rfl (by decide) (by decide) (Nat.le_of_ble_eq_true rfl) hroom (ct_X11_sell ((xs (nI i + 1).toNatClampNeg)) MC) hf hPC hS hAC hl.1 dL_375 rfl (fun H1 locs1 hPC hz1 hk1 hS => ?_)
  have hPR := wk_keep hPR (fun q h1 h2 => hk1 q h1 (hCR q h2))
  have hPo := wk_keepo hPo (fun h1 => hk1 qo h1 hCo)
  show W p l e room_1 s m #[.ref b] below meth c H1 locs1 _ _ _ (F0 m 378 ls [.int r])
  refine lv_aload_n hx hb dL_378 rfl (lv_at hl 2 rfl) ?_
  refine lv_aload_n hx hb dL_379 rfl (lv_at hl 0 rfl) ?_
  refine lv_iload hx hb dL_380 (lv_at hl 4 rfl) ?_
  refine lv_iconst (v := 1) hx hb dL_382 (by decide) ?_
  refine lv_iadd hx hb dL_383 ?_
  refine va_sld hx hb hX hbl hbA hS h1 dL_384 ?_
  refine wk_callV (Z := Y_X12_sell) (as := [.int ((xs (nI i + 1).toNatClampNeg))]) (rest := [.int r]) (own := RL) (A0 := fun q => s.heap.size ≤ q) (H0 := s.heap) hx hb hml hts hown hK hN hiR lk_L_44 cv_X12_sell ob_R_0 rfl (by decide) (by decide) (Nat.le_of_ble_eq_true rfl) hroom (ct_X12_sell ((xs (nI i + 1).toNatClampNeg)) MR) hg hPR hS hAR hl.1 dL_385 rfl (fun H2 locs2 hPR hz2 hk2 hS => ?_)
  have hPC := wk_keep hPC (fun q h1 h2 => hk2 q h1 (fun h3 => hCR q h3 h2))
  have hPo := wk_keepo hPo (fun h1 => hk2 qo h1 hRo)
  show W p l e room_1 s m #[.ref b] below meth c H2 locs2 _ _ _ (F0 m 388 ls [.int r, .int r])
  refine lv_icmp_eq (tgt := 1624) hx hb dL_388 (by decide) (fun _ => ?_) (fun h => absurd rfl h)
  exact W.widen (by omega) (by omega) (hnext MC1 MR1 fo H2 locs2 ls ⟨hR1, hPC, hPR, hPo, hS, hl⟩)
set_option maxHeartbeats 4000000 in
theorem law_5 {Rel : mm_M → mm_M → Prop} {p : Program} {l : Launch} {e : Env} {s : State} {m : MethodId} {below : List Frame} {meth : Method} {c : Code} {b L : Nat} {xs : Nat → Int32} {D : va_G} {cA : Nat → ClassId} {adC adR : Nat → Nat} {qo sa1 sa2 i : Nat} (hop : ∀ (a1 : Int32) (a2 : Int32), op_i Rel (f_X11_child a1 a2) (f_X12_child a1 a2)) (hL : L ≤ 3584) (hi : i + 6 < L) (C0 : LwC p l s m meth c b L xs D cA adC adR qo sa1 sa2) (hnext : LwA Rel p l e s m below meth c b D cA adC adR qo i (140 + i + 7) (20000 + i + 7) 1624) : LwA Rel p l e s m below meth c b D cA adC adR qo i (140 + i) (20000 + i) 393 := by
  obtain ⟨hx, hb, hml, hr, hlocks, hown, hts, hK, hN, hX, hbl, hiC, hiR, hCR, hCo, hRo, hAC, hAR, hAo, hxK, hNc, hxZ, hlt⟩ := id C0
  have hbA : ¬ (fun q : Nat => s.heap.size ≤ q) b := Nat.not_le.mpr hbl
  have hroom : 140 + i ≤ room_1.cells ∧ 20000 + i ≤ room_1.slots := ⟨by show 140 + i ≤ 601024; omega, by show 20000 + i ≤ 7293034; omega⟩
  have h1 : vp_in (nI i + 1) L := lw_h (k := 1) rfl (by omega) hi hL
  have h2 : vp_in (nI i + 2) L := lw_h (k := 2) rfl (by omega) hi hL
  have h3 : vp_in (nI i + 3) L := lw_h (k := 3) rfl (by omega) hi hL
  have h4 : vp_in (nI i + 4) L := lw_h (k := 4) rfl (by omega) hi hL
  have h5 : vp_in (nI i + 5) L := lw_h (k := 5) rfl (by omega) hi hL
  have h6 : vp_in (nI i + 6) L := lw_h (k := 6) rfl (by omega) hi hL
  intro MC MR fo H locs ls hI
  obtain ⟨hR, hPC, hPR, hPo, hS, hl⟩ := hI
  refine lv_aload_n hx hb dL_393 rfl (lv_at hl 1 rfl) ?_
  refine lv_aload_n hx hb dL_394 rfl (lv_at hl 0 rfl) ?_
  refine lv_iload hx hb dL_395 (lv_at hl 4 rfl) ?_
  refine lv_iconst (v := 1) hx hb dL_397 (by decide) ?_
  refine lv_iadd hx hb dL_398 ?_
  refine va_sld hx hb hX hbl hbA hS h1 dL_399 ?_
  refine lv_aload_n hx hb dL_400 rfl (lv_at hl 0 rfl) ?_
  refine lv_iload hx hb dL_401 (lv_at hl 4 rfl) ?_
  refine lv_iconst (v := 2) hx hb dL_403 (by decide) ?_
  refine lv_iadd hx hb dL_404 ?_
  refine va_sld hx hb hX hbl hbA hS h2 dL_405 ?_
  obtain ⟨r, MC1, MR1, hf, hg, hR1⟩ := hop ((xs (nI i + 1).toNatClampNeg)) ((xs (nI i + 2).toNatClampNeg)) MC MR hR
  refine wk_callV (Z := Y_X11_child) (as := [.int ((xs (nI i + 1).toNatClampNeg)), .int ((xs (nI i + 2).toNatClampNeg))]) (rest := []) (own := RL) (A0 := fun q => s.heap.size ≤ q) (H0 := s.heap) hx hb hml hts hown hK hN hiC lk_L_45 cv_X11_child ob_C_0 rfl (by decide) (by decide) (Nat.le_of_ble_eq_true rfl) hroom (ct_X11_child ((xs (nI i + 1).toNatClampNeg)) ((xs (nI i + 2).toNatClampNeg)) MC) hf hPC hS hAC hl.1 dL_406 rfl (fun H1 locs1 hPC hz1 hk1 hS => ?_)
  have hPR := wk_keep hPR (fun q h1 h2 => hk1 q h1 (hCR q h2))
  have hPo := wk_keepo hPo (fun h1 => hk1 qo h1 hCo)
  show W p l e room_1 s m #[.ref b] below meth c H1 locs1 _ _ _ (F0 m 409 ls [.int r])
  refine lv_aload_n hx hb dL_409 rfl (lv_at hl 2 rfl) ?_
  refine lv_aload_n hx hb dL_410 rfl (lv_at hl 0 rfl) ?_
  refine lv_iload hx hb dL_411 (lv_at hl 4 rfl) ?_
  refine lv_iconst (v := 1) hx hb dL_413 (by decide) ?_
  refine lv_iadd hx hb dL_414 ?_
  refine va_sld hx hb hX hbl hbA hS h1 dL_415 ?_
  refine lv_aload_n hx hb dL_416 rfl (lv_at hl 0 rfl) ?_
  refine lv_iload hx hb dL_417 (lv_at hl 4 rfl) ?_
  refine lv_iconst (v := 2) hx hb dL_419 (by decide) ?_
  refine lv_iadd hx hb dL_420 ?_
  refine va_sld hx hb hX hbl hbA hS h2 dL_421 ?_
  refine wk_callV (Z := Y_X12_child) (as := [.int ((xs (nI i + 1).toNatClampNeg)), .int ((xs (nI i + 2).toNatClampNeg))]) (rest := [.int r]) (own := RL) (A0 := fun q => s.heap.size ≤ q) (H0 := s.heap) hx hb hml hts hown hK hN hiR lk_L_48 cv_X12_child ob_R_0 rfl (by decide) (by decide) (Nat.le_of_ble_eq_true rfl) hroom (ct_X12_child ((xs (nI i + 1).toNatClampNeg)) ((xs (nI i + 2).toNatClampNeg)) MR) hg hPR hS hAR hl.1 dL_422 rfl (fun H2 locs2 hPR hz2 hk2 hS => ?_)
  have hPC := wk_keep hPC (fun q h1 h2 => hk2 q h1 (fun h3 => hCR q h3 h2))
  have hPo := wk_keepo hPo (fun h1 => hk2 qo h1 hRo)
  show W p l e room_1 s m #[.ref b] below meth c H2 locs2 _ _ _ (F0 m 425 ls [.int r, .int r])
  refine lv_icmp_eq (tgt := 1624) hx hb dL_425 (by decide) (fun _ => ?_) (fun h => absurd rfl h)
  exact W.widen (by omega) (by omega) (hnext MC1 MR1 fo H2 locs2 ls ⟨hR1, hPC, hPR, hPo, hS, hl⟩)
set_option maxHeartbeats 4000000 in
theorem law_6 {Rel : mm_M → mm_M → Prop} {p : Program} {l : Launch} {e : Env} {s : State} {m : MethodId} {below : List Frame} {meth : Method} {c : Code} {b L : Nat} {xs : Nat → Int32} {D : va_G} {cA : Nat → ClassId} {adC adR : Nat → Nat} {qo sa1 sa2 i : Nat} (hop : ∀ (a1 : Int32) (a2 : Int32), op_i Rel (f_X11_guess a1 a2) (f_X12_guess a1 a2)) (hL : L ≤ 3584) (hi : i + 6 < L) (C0 : LwC p l s m meth c b L xs D cA adC adR qo sa1 sa2) (hnext : LwA Rel p l e s m below meth c b D cA adC adR qo i (140 + i + 7) (20000 + i + 7) 1624) : LwA Rel p l e s m below meth c b D cA adC adR qo i (140 + i) (20000 + i) 430 := by
  obtain ⟨hx, hb, hml, hr, hlocks, hown, hts, hK, hN, hX, hbl, hiC, hiR, hCR, hCo, hRo, hAC, hAR, hAo, hxK, hNc, hxZ, hlt⟩ := id C0
  have hbA : ¬ (fun q : Nat => s.heap.size ≤ q) b := Nat.not_le.mpr hbl
  have hroom : 140 + i ≤ room_1.cells ∧ 20000 + i ≤ room_1.slots := ⟨by show 140 + i ≤ 601024; omega, by show 20000 + i ≤ 7293034; omega⟩
  have h1 : vp_in (nI i + 1) L := lw_h (k := 1) rfl (by omega) hi hL
  have h2 : vp_in (nI i + 2) L := lw_h (k := 2) rfl (by omega) hi hL
  have h3 : vp_in (nI i + 3) L := lw_h (k := 3) rfl (by omega) hi hL
  have h4 : vp_in (nI i + 4) L := lw_h (k := 4) rfl (by omega) hi hL
  have h5 : vp_in (nI i + 5) L := lw_h (k := 5) rfl (by omega) hi hL
  have h6 : vp_in (nI i + 6) L := lw_h (k := 6) rfl (by omega) hi hL
  intro MC MR fo H locs ls hI
  obtain ⟨hR, hPC, hPR, hPo, hS, hl⟩ := hI
  refine lv_aload_n hx hb dL_430 rfl (lv_at hl 1 rfl) ?_
  refine lv_aload_n hx hb dL_431 rfl (lv_at hl 0 rfl) ?_
  refine lv_iload hx hb dL_432 (lv_at hl 4 rfl) ?_
  refine lv_iconst (v := 1) hx hb dL_434 (by decide) ?_
  refine lv_iadd hx hb dL_435 ?_
  refine va_sld hx hb hX hbl hbA hS h1 dL_436 ?_
  refine lv_aload_n hx hb dL_437 rfl (lv_at hl 0 rfl) ?_
  refine lv_iload hx hb dL_438 (lv_at hl 4 rfl) ?_
  refine lv_iconst (v := 2) hx hb dL_440 (by decide) ?_
  refine lv_iadd hx hb dL_441 ?_
  refine va_sld hx hb hX hbl hbA hS h2 dL_442 ?_
  obtain ⟨r, MC1, MR1, hf, hg, hR1⟩ := hop ((xs (nI i + 1).toNatClampNeg)) ((xs (nI i + 2).toNatClampNeg)) MC MR hR
  refine wk_callV (Z := Y_X11_guess) (as := [.int ((xs (nI i + 1).toNatClampNeg)), .int ((xs (nI i + 2).toNatClampNeg))]) (rest := []) (own := RL) (A0 := fun q => s.heap.size ≤ q) (H0 := s.heap) hx hb hml hts hown hK hN hiC lk_L_49 cv_X11_guess ob_C_0 rfl (by decide) (by decide) (Nat.le_of_ble_eq_true rfl) hroom (ct_X11_guess ((xs (nI i + 1).toNatClampNeg)) ((xs (nI i + 2).toNatClampNeg)) MC) hf hPC hS hAC hl.1 dL_443 rfl (fun H1 locs1 hPC hz1 hk1 hS => ?_)
  have hPR := wk_keep hPR (fun q h1 h2 => hk1 q h1 (hCR q h2))
  have hPo := wk_keepo hPo (fun h1 => hk1 qo h1 hCo)
  show W p l e room_1 s m #[.ref b] below meth c H1 locs1 _ _ _ (F0 m 446 ls [.int r])
  refine lv_aload_n hx hb dL_446 rfl (lv_at hl 2 rfl) ?_
  refine lv_aload_n hx hb dL_447 rfl (lv_at hl 0 rfl) ?_
  refine lv_iload hx hb dL_448 (lv_at hl 4 rfl) ?_
  refine lv_iconst (v := 1) hx hb dL_450 (by decide) ?_
  refine lv_iadd hx hb dL_451 ?_
  refine va_sld hx hb hX hbl hbA hS h1 dL_452 ?_
  refine lv_aload_n hx hb dL_453 rfl (lv_at hl 0 rfl) ?_
  refine lv_iload hx hb dL_454 (lv_at hl 4 rfl) ?_
  refine lv_iconst (v := 2) hx hb dL_456 (by decide) ?_
  refine lv_iadd hx hb dL_457 ?_
  refine va_sld hx hb hX hbl hbA hS h2 dL_458 ?_
  refine wk_callV (Z := Y_X12_guess) (as := [.int ((xs (nI i + 1).toNatClampNeg)), .int ((xs (nI i + 2).toNatClampNeg))]) (rest := [.int r]) (own := RL) (A0 := fun q => s.heap.size ≤ q) (H0 := s.heap) hx hb hml hts hown hK hN hiR lk_L_52 cv_X12_guess ob_R_0 rfl (by decide) (by decide) (Nat.le_of_ble_eq_true rfl) hroom (ct_X12_guess ((xs (nI i + 1).toNatClampNeg)) ((xs (nI i + 2).toNatClampNeg)) MR) hg hPR hS hAR hl.1 dL_459 rfl (fun H2 locs2 hPR hz2 hk2 hS => ?_)
  have hPC := wk_keep hPC (fun q h1 h2 => hk2 q h1 (fun h3 => hCR q h3 h2))
  have hPo := wk_keepo hPo (fun h1 => hk2 qo h1 hRo)
  show W p l e room_1 s m #[.ref b] below meth c H2 locs2 _ _ _ (F0 m 462 ls [.int r, .int r])
  refine lv_icmp_eq (tgt := 1624) hx hb dL_462 (by decide) (fun _ => ?_) (fun h => absurd rfl h)
  exact W.widen (by omega) (by omega) (hnext MC1 MR1 fo H2 locs2 ls ⟨hR1, hPC, hPR, hPo, hS, hl⟩)
set_option maxHeartbeats 4000000 in
theorem law_7 {Rel : mm_M → mm_M → Prop} {p : Program} {l : Launch} {e : Env} {s : State} {m : MethodId} {below : List Frame} {meth : Method} {c : Code} {b L : Nat} {xs : Nat → Int32} {D : va_G} {cA : Nat → ClassId} {adC adR : Nat → Nat} {qo sa1 sa2 i : Nat} (hop : ∀ (a1 : Int32) (a2 : Int32), op_i Rel (f_X11_childOf a1 a2) (f_X12_childOf a1 a2)) (hL : L ≤ 3584) (hi : i + 6 < L) (C0 : LwC p l s m meth c b L xs D cA adC adR qo sa1 sa2) (hnext : LwA Rel p l e s m below meth c b D cA adC adR qo i (140 + i + 7) (20000 + i + 7) 1624) : LwA Rel p l e s m below meth c b D cA adC adR qo i (140 + i) (20000 + i) 467 := by
  obtain ⟨hx, hb, hml, hr, hlocks, hown, hts, hK, hN, hX, hbl, hiC, hiR, hCR, hCo, hRo, hAC, hAR, hAo, hxK, hNc, hxZ, hlt⟩ := id C0
  have hbA : ¬ (fun q : Nat => s.heap.size ≤ q) b := Nat.not_le.mpr hbl
  have hroom : 140 + i ≤ room_1.cells ∧ 20000 + i ≤ room_1.slots := ⟨by show 140 + i ≤ 601024; omega, by show 20000 + i ≤ 7293034; omega⟩
  have h1 : vp_in (nI i + 1) L := lw_h (k := 1) rfl (by omega) hi hL
  have h2 : vp_in (nI i + 2) L := lw_h (k := 2) rfl (by omega) hi hL
  have h3 : vp_in (nI i + 3) L := lw_h (k := 3) rfl (by omega) hi hL
  have h4 : vp_in (nI i + 4) L := lw_h (k := 4) rfl (by omega) hi hL
  have h5 : vp_in (nI i + 5) L := lw_h (k := 5) rfl (by omega) hi hL
  have h6 : vp_in (nI i + 6) L := lw_h (k := 6) rfl (by omega) hi hL
  intro MC MR fo H locs ls hI
  obtain ⟨hR, hPC, hPR, hPo, hS, hl⟩ := hI
  refine lv_aload_n hx hb dL_467 rfl (lv_at hl 1 rfl) ?_
  refine lv_aload_n hx hb dL_468 rfl (lv_at hl 0 rfl) ?_
  refine lv_iload hx hb dL_469 (lv_at hl 4 rfl) ?_
  refine lv_iconst (v := 1) hx hb dL_471 (by decide) ?_
  refine lv_iadd hx hb dL_472 ?_
  refine va_sld hx hb hX hbl hbA hS h1 dL_473 ?_
  refine lv_aload_n hx hb dL_474 rfl (lv_at hl 0 rfl) ?_
  refine lv_iload hx hb dL_475 (lv_at hl 4 rfl) ?_
  refine lv_iconst (v := 2) hx hb dL_477 (by decide) ?_
  refine lv_iadd hx hb dL_478 ?_
  refine va_sld hx hb hX hbl hbA hS h2 dL_479 ?_
  obtain ⟨r, MC1, MR1, hf, hg, hR1⟩ := hop ((xs (nI i + 1).toNatClampNeg)) ((xs (nI i + 2).toNatClampNeg)) MC MR hR
  refine wk_callV (Z := Y_X11_childOf) (as := [.int ((xs (nI i + 1).toNatClampNeg)), .int ((xs (nI i + 2).toNatClampNeg))]) (rest := []) (own := RL) (A0 := fun q => s.heap.size ≤ q) (H0 := s.heap) hx hb hml hts hown hK hN hiC lk_L_53 cv_X11_childOf ob_C_0 rfl (by decide) (by decide) (Nat.le_of_ble_eq_true rfl) hroom (ct_X11_childOf ((xs (nI i + 1).toNatClampNeg)) ((xs (nI i + 2).toNatClampNeg)) MC) hf hPC hS hAC hl.1 dL_480 rfl (fun H1 locs1 hPC hz1 hk1 hS => ?_)
  have hPR := wk_keep hPR (fun q h1 h2 => hk1 q h1 (hCR q h2))
  have hPo := wk_keepo hPo (fun h1 => hk1 qo h1 hCo)
  show W p l e room_1 s m #[.ref b] below meth c H1 locs1 _ _ _ (F0 m 483 ls [.int r])
  refine lv_aload_n hx hb dL_483 rfl (lv_at hl 2 rfl) ?_
  refine lv_aload_n hx hb dL_484 rfl (lv_at hl 0 rfl) ?_
  refine lv_iload hx hb dL_485 (lv_at hl 4 rfl) ?_
  refine lv_iconst (v := 1) hx hb dL_487 (by decide) ?_
  refine lv_iadd hx hb dL_488 ?_
  refine va_sld hx hb hX hbl hbA hS h1 dL_489 ?_
  refine lv_aload_n hx hb dL_490 rfl (lv_at hl 0 rfl) ?_
  refine lv_iload hx hb dL_491 (lv_at hl 4 rfl) ?_
  refine lv_iconst (v := 2) hx hb dL_493 (by decide) ?_
  refine lv_iadd hx hb dL_494 ?_
  refine va_sld hx hb hX hbl hbA hS h2 dL_495 ?_
  refine wk_callV (Z := Y_X12_childOf) (as := [.int ((xs (nI i + 1).toNatClampNeg)), .int ((xs (nI i + 2).toNatClampNeg))]) (rest := [.int r]) (own := RL) (A0 := fun q => s.heap.size ≤ q) (H0 := s.heap) hx hb hml hts hown hK hN hiR lk_L_56 cv_X12_childOf ob_R_0 rfl (by decide) (by decide) (Nat.le_of_ble_eq_true rfl) hroom (ct_X12_childOf ((xs (nI i + 1).toNatClampNeg)) ((xs (nI i + 2).toNatClampNeg)) MR) hg hPR hS hAR hl.1 dL_496 rfl (fun H2 locs2 hPR hz2 hk2 hS => ?_)
  have hPC := wk_keep hPC (fun q h1 h2 => hk2 q h1 (fun h3 => hCR q h3 h2))
  have hPo := wk_keepo hPo (fun h1 => hk2 qo h1 hRo)
  show W p l e room_1 s m #[.ref b] below meth c H2 locs2 _ _ _ (F0 m 499 ls [.int r, .int r])
  refine lv_icmp_eq (tgt := 1624) hx hb dL_499 (by decide) (fun _ => ?_) (fun h => absurd rfl h)
  exact W.widen (by omega) (by omega) (hnext MC1 MR1 fo H2 locs2 ls ⟨hR1, hPC, hPR, hPo, hS, hl⟩)
set_option maxHeartbeats 4000000 in
theorem law_8 {Rel : mm_M → mm_M → Prop} {p : Program} {l : Launch} {e : Env} {s : State} {m : MethodId} {below : List Frame} {meth : Method} {c : Code} {b L : Nat} {xs : Nat → Int32} {D : va_G} {cA : Nat → ClassId} {adC adR : Nat → Nat} {qo sa1 sa2 i : Nat} (hop : ∀ (a1 : Int32) (a2 : Int32) (a3 : Int32), (a3 = 0 ∨ a3 = 1) → op_i Rel (f_X11_known a1 a2 a3) (f_X12_known a1 a2 a3)) (hL : L ≤ 3584) (hi : i + 6 < L) (C0 : LwC p l s m meth c b L xs D cA adC adR qo sa1 sa2) (hnext : LwA Rel p l e s m below meth c b D cA adC adR qo i (140 + i + 7) (20000 + i + 7) 1624) : LwA Rel p l e s m below meth c b D cA adC adR qo i (140 + i) (20000 + i) 504 := by
  obtain ⟨hx, hb, hml, hr, hlocks, hown, hts, hK, hN, hX, hbl, hiC, hiR, hCR, hCo, hRo, hAC, hAR, hAo, hxK, hNc, hxZ, hlt⟩ := id C0
  have hbA : ¬ (fun q : Nat => s.heap.size ≤ q) b := Nat.not_le.mpr hbl
  have hroom : 140 + i ≤ room_1.cells ∧ 20000 + i ≤ room_1.slots := ⟨by show 140 + i ≤ 601024; omega, by show 20000 + i ≤ 7293034; omega⟩
  have h1 : vp_in (nI i + 1) L := lw_h (k := 1) rfl (by omega) hi hL
  have h2 : vp_in (nI i + 2) L := lw_h (k := 2) rfl (by omega) hi hL
  have h3 : vp_in (nI i + 3) L := lw_h (k := 3) rfl (by omega) hi hL
  have h4 : vp_in (nI i + 4) L := lw_h (k := 4) rfl (by omega) hi hL
  have h5 : vp_in (nI i + 5) L := lw_h (k := 5) rfl (by omega) hi hL
  have h6 : vp_in (nI i + 6) L := lw_h (k := 6) rfl (by omega) hi hL
  intro MC MR fo H locs ls hI
  obtain ⟨hR, hPC, hPR, hPo, hS, hl⟩ := hI
  by_cases hz3 : xs (nI i + 3).toNatClampNeg = 0
  ·
    refine lv_aload_n hx hb dL_504 rfl (lv_at hl 1 rfl) ?_
    refine lv_aload_n hx hb dL_505 rfl (lv_at hl 0 rfl) ?_
    refine lv_iload hx hb dL_506 (lv_at hl 4 rfl) ?_
    refine lv_iconst (v := 1) hx hb dL_508 (by decide) ?_
    refine lv_iadd hx hb dL_509 ?_
    refine va_sld hx hb hX hbl hbA hS h1 dL_510 ?_
    refine lv_aload_n hx hb dL_511 rfl (lv_at hl 0 rfl) ?_
    refine lv_iload hx hb dL_512 (lv_at hl 4 rfl) ?_
    refine lv_iconst (v := 2) hx hb dL_514 (by decide) ?_
    refine lv_iadd hx hb dL_515 ?_
    refine va_sld hx hb hX hbl hbA hS h2 dL_516 ?_
    refine lv_aload_n hx hb dL_517 rfl (lv_at hl 0 rfl) ?_
    refine lv_iload hx hb dL_518 (lv_at hl 4 rfl) ?_
    refine lv_iconst (v := 3) hx hb dL_520 (by decide) ?_
    refine lv_iadd hx hb dL_521 ?_
    refine va_sld hx hb hX hbl hbA hS h3 dL_522 ?_
    refine lv_if_eq (tgt := 530) hx hb dL_523 (by decide) (fun _ => ?_) (fun h => absurd hz3 h)
    refine lv_iconst (v := 0) hx hb dL_530 (by decide) ?_
    obtain ⟨r, MC1, MR1, hf, hg, hR1⟩ := hop ((xs (nI i + 1).toNatClampNeg)) ((xs (nI i + 2).toNatClampNeg)) ((0 : Int32)) (Or.inl rfl) MC MR hR
    refine wk_callV (Z := Y_X11_known) (as := [.int ((xs (nI i + 1).toNatClampNeg)), .int ((xs (nI i + 2).toNatClampNeg)), .int (0)]) (rest := []) (own := RL) (A0 := fun q => s.heap.size ≤ q) (H0 := s.heap) hx hb hml hts hown hK hN hiC lk_L_57 cv_X11_known ob_C_0 rfl (by decide) (by decide) (Nat.le_of_ble_eq_true rfl) hroom (ct_X11_known ((xs (nI i + 1).toNatClampNeg)) ((xs (nI i + 2).toNatClampNeg)) ((0 : Int32)) MC) hf hPC hS hAC hl.1 dL_531 rfl (fun H1 locs1 hPC hz1 hk1 hS => ?_)
    have hPR := wk_keep hPR (fun q h1 h2 => hk1 q h1 (hCR q h2))
    have hPo := wk_keepo hPo (fun h1 => hk1 qo h1 hCo)
    show W p l e room_1 s m #[.ref b] below meth c H1 locs1 _ _ _ (F0 m 534 ls [.int r])
    refine lv_aload_n hx hb dL_534 rfl (lv_at hl 2 rfl) ?_
    refine lv_aload_n hx hb dL_535 rfl (lv_at hl 0 rfl) ?_
    refine lv_iload hx hb dL_536 (lv_at hl 4 rfl) ?_
    refine lv_iconst (v := 1) hx hb dL_538 (by decide) ?_
    refine lv_iadd hx hb dL_539 ?_
    refine va_sld hx hb hX hbl hbA hS h1 dL_540 ?_
    refine lv_aload_n hx hb dL_541 rfl (lv_at hl 0 rfl) ?_
    refine lv_iload hx hb dL_542 (lv_at hl 4 rfl) ?_
    refine lv_iconst (v := 2) hx hb dL_544 (by decide) ?_
    refine lv_iadd hx hb dL_545 ?_
    refine va_sld hx hb hX hbl hbA hS h2 dL_546 ?_
    refine lv_aload_n hx hb dL_547 rfl (lv_at hl 0 rfl) ?_
    refine lv_iload hx hb dL_548 (lv_at hl 4 rfl) ?_
    refine lv_iconst (v := 3) hx hb dL_550 (by decide) ?_
    refine lv_iadd hx hb dL_551 ?_
    refine va_sld hx hb hX hbl hbA hS h3 dL_552 ?_
    refine lv_if_eq (tgt := 560) hx hb dL_553 (by decide) (fun _ => ?_) (fun h => absurd hz3 h)
    refine lv_iconst (v := 0) hx hb dL_560 (by decide) ?_
    refine wk_callV (Z := Y_X12_known) (as := [.int ((xs (nI i + 1).toNatClampNeg)), .int ((xs (nI i + 2).toNatClampNeg)), .int (0)]) (rest := [.int r]) (own := RL) (A0 := fun q => s.heap.size ≤ q) (H0 := s.heap) hx hb hml hts hown hK hN hiR lk_L_61 cv_X12_known ob_R_0 rfl (by decide) (by decide) (Nat.le_of_ble_eq_true rfl) hroom (ct_X12_known ((xs (nI i + 1).toNatClampNeg)) ((xs (nI i + 2).toNatClampNeg)) ((0 : Int32)) MR) hg hPR hS hAR hl.1 dL_561 rfl (fun H2 locs2 hPR hz2 hk2 hS => ?_)
    have hPC := wk_keep hPC (fun q h1 h2 => hk2 q h1 (fun h3 => hCR q h3 h2))
    have hPo := wk_keepo hPo (fun h1 => hk2 qo h1 hRo)
    show W p l e room_1 s m #[.ref b] below meth c H2 locs2 _ _ _ (F0 m 564 ls [.int r, .int r])
    refine lv_icmp_eq (tgt := 1624) hx hb dL_564 (by decide) (fun _ => ?_) (fun h => absurd rfl h)
    exact W.widen (by omega) (by omega) (hnext MC1 MR1 fo H2 locs2 ls ⟨hR1, hPC, hPR, hPo, hS, hl⟩)
  ·
    refine lv_aload_n hx hb dL_504 rfl (lv_at hl 1 rfl) ?_
    refine lv_aload_n hx hb dL_505 rfl (lv_at hl 0 rfl) ?_
    refine lv_iload hx hb dL_506 (lv_at hl 4 rfl) ?_
    refine lv_iconst (v := 1) hx hb dL_508 (by decide) ?_
    refine lv_iadd hx hb dL_509 ?_
    refine va_sld hx hb hX hbl hbA hS h1 dL_510 ?_
    refine lv_aload_n hx hb dL_511 rfl (lv_at hl 0 rfl) ?_
    refine lv_iload hx hb dL_512 (lv_at hl 4 rfl) ?_
    refine lv_iconst (v := 2) hx hb dL_514 (by decide) ?_
    refine lv_iadd hx hb dL_515 ?_
    refine va_sld hx hb hX hbl hbA hS h2 dL_516 ?_
    refine lv_aload_n hx hb dL_517 rfl (lv_at hl 0 rfl) ?_
    refine lv_iload hx hb dL_518 (lv_at hl 4 rfl) ?_
    refine lv_iconst (v := 3) hx hb dL_520 (by decide) ?_
    refine lv_iadd hx hb dL_521 ?_
    refine va_sld hx hb hX hbl hbA hS h3 dL_522 ?_
    refine lv_if_eq (tgt := 530) hx hb dL_523 (by decide) (fun h => absurd h hz3) (fun _ => ?_)
    refine lv_iconst (v := 1) hx hb dL_526 (by decide) ?_
    refine lv_goto (tgt := 531) hx hb dL_527 (by decide) ?_
    obtain ⟨r, MC1, MR1, hf, hg, hR1⟩ := hop ((xs (nI i + 1).toNatClampNeg)) ((xs (nI i + 2).toNatClampNeg)) ((1 : Int32)) (Or.inr rfl) MC MR hR
    refine wk_callV (Z := Y_X11_known) (as := [.int ((xs (nI i + 1).toNatClampNeg)), .int ((xs (nI i + 2).toNatClampNeg)), .int (1)]) (rest := []) (own := RL) (A0 := fun q => s.heap.size ≤ q) (H0 := s.heap) hx hb hml hts hown hK hN hiC lk_L_57 cv_X11_known ob_C_0 rfl (by decide) (by decide) (Nat.le_of_ble_eq_true rfl) hroom (ct_X11_known ((xs (nI i + 1).toNatClampNeg)) ((xs (nI i + 2).toNatClampNeg)) ((1 : Int32)) MC) hf hPC hS hAC hl.1 dL_531 rfl (fun H1 locs1 hPC hz1 hk1 hS => ?_)
    have hPR := wk_keep hPR (fun q h1 h2 => hk1 q h1 (hCR q h2))
    have hPo := wk_keepo hPo (fun h1 => hk1 qo h1 hCo)
    show W p l e room_1 s m #[.ref b] below meth c H1 locs1 _ _ _ (F0 m 534 ls [.int r])
    refine lv_aload_n hx hb dL_534 rfl (lv_at hl 2 rfl) ?_
    refine lv_aload_n hx hb dL_535 rfl (lv_at hl 0 rfl) ?_
    refine lv_iload hx hb dL_536 (lv_at hl 4 rfl) ?_
    refine lv_iconst (v := 1) hx hb dL_538 (by decide) ?_
    refine lv_iadd hx hb dL_539 ?_
    refine va_sld hx hb hX hbl hbA hS h1 dL_540 ?_
    refine lv_aload_n hx hb dL_541 rfl (lv_at hl 0 rfl) ?_
    refine lv_iload hx hb dL_542 (lv_at hl 4 rfl) ?_
    refine lv_iconst (v := 2) hx hb dL_544 (by decide) ?_
    refine lv_iadd hx hb dL_545 ?_
    refine va_sld hx hb hX hbl hbA hS h2 dL_546 ?_
    refine lv_aload_n hx hb dL_547 rfl (lv_at hl 0 rfl) ?_
    refine lv_iload hx hb dL_548 (lv_at hl 4 rfl) ?_
    refine lv_iconst (v := 3) hx hb dL_550 (by decide) ?_
    refine lv_iadd hx hb dL_551 ?_
    refine va_sld hx hb hX hbl hbA hS h3 dL_552 ?_
    refine lv_if_eq (tgt := 560) hx hb dL_553 (by decide) (fun h => absurd h hz3) (fun _ => ?_)
    refine lv_iconst (v := 1) hx hb dL_556 (by decide) ?_
    refine lv_goto (tgt := 561) hx hb dL_557 (by decide) ?_
    refine wk_callV (Z := Y_X12_known) (as := [.int ((xs (nI i + 1).toNatClampNeg)), .int ((xs (nI i + 2).toNatClampNeg)), .int (1)]) (rest := [.int r]) (own := RL) (A0 := fun q => s.heap.size ≤ q) (H0 := s.heap) hx hb hml hts hown hK hN hiR lk_L_61 cv_X12_known ob_R_0 rfl (by decide) (by decide) (Nat.le_of_ble_eq_true rfl) hroom (ct_X12_known ((xs (nI i + 1).toNatClampNeg)) ((xs (nI i + 2).toNatClampNeg)) ((1 : Int32)) MR) hg hPR hS hAR hl.1 dL_561 rfl (fun H2 locs2 hPR hz2 hk2 hS => ?_)
    have hPC := wk_keep hPC (fun q h1 h2 => hk2 q h1 (fun h3 => hCR q h3 h2))
    have hPo := wk_keepo hPo (fun h1 => hk2 qo h1 hRo)
    show W p l e room_1 s m #[.ref b] below meth c H2 locs2 _ _ _ (F0 m 564 ls [.int r, .int r])
    refine lv_icmp_eq (tgt := 1624) hx hb dL_564 (by decide) (fun _ => ?_) (fun h => absurd rfl h)
    exact W.widen (by omega) (by omega) (hnext MC1 MR1 fo H2 locs2 ls ⟨hR1, hPC, hPR, hPo, hS, hl⟩)
set_option maxHeartbeats 4000000 in
theorem law_9 {Rel : mm_M → mm_M → Prop} {p : Program} {l : Launch} {e : Env} {s : State} {m : MethodId} {below : List Frame} {meth : Method} {c : Code} {b L : Nat} {xs : Nat → Int32} {D : va_G} {cA : Nat → ClassId} {adC adR : Nat → Nat} {qo sa1 sa2 i : Nat} (hop : ∀ (a1 : Int32) (a2 : Int32), op_i Rel (f_X11_draw a1 a2) (f_X12_draw a1 a2)) (hL : L ≤ 3584) (hi : i + 6 < L) (C0 : LwC p l s m meth c b L xs D cA adC adR qo sa1 sa2) (hnext : LwA Rel p l e s m below meth c b D cA adC adR qo i (140 + i + 7) (20000 + i + 7) 1624) : LwA Rel p l e s m below meth c b D cA adC adR qo i (140 + i) (20000 + i) 569 := by
  obtain ⟨hx, hb, hml, hr, hlocks, hown, hts, hK, hN, hX, hbl, hiC, hiR, hCR, hCo, hRo, hAC, hAR, hAo, hxK, hNc, hxZ, hlt⟩ := id C0
  have hbA : ¬ (fun q : Nat => s.heap.size ≤ q) b := Nat.not_le.mpr hbl
  have hroom : 140 + i ≤ room_1.cells ∧ 20000 + i ≤ room_1.slots := ⟨by show 140 + i ≤ 601024; omega, by show 20000 + i ≤ 7293034; omega⟩
  have h1 : vp_in (nI i + 1) L := lw_h (k := 1) rfl (by omega) hi hL
  have h2 : vp_in (nI i + 2) L := lw_h (k := 2) rfl (by omega) hi hL
  have h3 : vp_in (nI i + 3) L := lw_h (k := 3) rfl (by omega) hi hL
  have h4 : vp_in (nI i + 4) L := lw_h (k := 4) rfl (by omega) hi hL
  have h5 : vp_in (nI i + 5) L := lw_h (k := 5) rfl (by omega) hi hL
  have h6 : vp_in (nI i + 6) L := lw_h (k := 6) rfl (by omega) hi hL
  intro MC MR fo H locs ls hI
  obtain ⟨hR, hPC, hPR, hPo, hS, hl⟩ := hI
  refine lv_aload_n hx hb dL_569 rfl (lv_at hl 1 rfl) ?_
  refine lv_aload_n hx hb dL_570 rfl (lv_at hl 0 rfl) ?_
  refine lv_iload hx hb dL_571 (lv_at hl 4 rfl) ?_
  refine lv_iconst (v := 1) hx hb dL_573 (by decide) ?_
  refine lv_iadd hx hb dL_574 ?_
  refine va_sld hx hb hX hbl hbA hS h1 dL_575 ?_
  refine lv_aload_n hx hb dL_576 rfl (lv_at hl 0 rfl) ?_
  refine lv_iload hx hb dL_577 (lv_at hl 4 rfl) ?_
  refine lv_iconst (v := 2) hx hb dL_579 (by decide) ?_
  refine lv_iadd hx hb dL_580 ?_
  refine va_sld hx hb hX hbl hbA hS h2 dL_581 ?_
  obtain ⟨r, MC1, MR1, hf, hg, hR1⟩ := hop ((xs (nI i + 1).toNatClampNeg)) ((xs (nI i + 2).toNatClampNeg)) MC MR hR
  refine wk_callV (Z := Y_X11_draw) (as := [.int ((xs (nI i + 1).toNatClampNeg)), .int ((xs (nI i + 2).toNatClampNeg))]) (rest := []) (own := RL) (A0 := fun q => s.heap.size ≤ q) (H0 := s.heap) hx hb hml hts hown hK hN hiC lk_L_62 cv_X11_draw ob_C_0 rfl (by decide) (by decide) (Nat.le_of_ble_eq_true rfl) hroom (ct_X11_draw ((xs (nI i + 1).toNatClampNeg)) ((xs (nI i + 2).toNatClampNeg)) MC) hf hPC hS hAC hl.1 dL_582 rfl (fun H1 locs1 hPC hz1 hk1 hS => ?_)
  have hPR := wk_keep hPR (fun q h1 h2 => hk1 q h1 (hCR q h2))
  have hPo := wk_keepo hPo (fun h1 => hk1 qo h1 hCo)
  show W p l e room_1 s m #[.ref b] below meth c H1 locs1 _ _ _ (F0 m 585 ls [.int r])
  refine lv_aload_n hx hb dL_585 rfl (lv_at hl 2 rfl) ?_
  refine lv_aload_n hx hb dL_586 rfl (lv_at hl 0 rfl) ?_
  refine lv_iload hx hb dL_587 (lv_at hl 4 rfl) ?_
  refine lv_iconst (v := 1) hx hb dL_589 (by decide) ?_
  refine lv_iadd hx hb dL_590 ?_
  refine va_sld hx hb hX hbl hbA hS h1 dL_591 ?_
  refine lv_aload_n hx hb dL_592 rfl (lv_at hl 0 rfl) ?_
  refine lv_iload hx hb dL_593 (lv_at hl 4 rfl) ?_
  refine lv_iconst (v := 2) hx hb dL_595 (by decide) ?_
  refine lv_iadd hx hb dL_596 ?_
  refine va_sld hx hb hX hbl hbA hS h2 dL_597 ?_
  refine wk_callV (Z := Y_X12_draw) (as := [.int ((xs (nI i + 1).toNatClampNeg)), .int ((xs (nI i + 2).toNatClampNeg))]) (rest := [.int r]) (own := RL) (A0 := fun q => s.heap.size ≤ q) (H0 := s.heap) hx hb hml hts hown hK hN hiR lk_L_65 cv_X12_draw ob_R_0 rfl (by decide) (by decide) (Nat.le_of_ble_eq_true rfl) hroom (ct_X12_draw ((xs (nI i + 1).toNatClampNeg)) ((xs (nI i + 2).toNatClampNeg)) MR) hg hPR hS hAR hl.1 dL_598 rfl (fun H2 locs2 hPR hz2 hk2 hS => ?_)
  have hPC := wk_keep hPC (fun q h1 h2 => hk2 q h1 (fun h3 => hCR q h3 h2))
  have hPo := wk_keepo hPo (fun h1 => hk2 qo h1 hRo)
  show W p l e room_1 s m #[.ref b] below meth c H2 locs2 _ _ _ (F0 m 601 ls [.int r, .int r])
  refine lv_icmp_eq (tgt := 1624) hx hb dL_601 (by decide) (fun _ => ?_) (fun h => absurd rfl h)
  exact W.widen (by omega) (by omega) (hnext MC1 MR1 fo H2 locs2 ls ⟨hR1, hPC, hPR, hPo, hS, hl⟩)
set_option maxHeartbeats 4000000 in
theorem law_10 {Rel : mm_M → mm_M → Prop} {p : Program} {l : Launch} {e : Env} {s : State} {m : MethodId} {below : List Frame} {meth : Method} {c : Code} {b L : Nat} {xs : Nat → Int32} {D : va_G} {cA : Nat → ClassId} {adC adR : Nat → Nat} {qo sa1 sa2 i : Nat} (hop : ∀ (a1 : Int32) (a2 : Int32), op_i Rel (f_X11_drawn a1 a2) (f_X12_drawn a1 a2)) (hL : L ≤ 3584) (hi : i + 6 < L) (C0 : LwC p l s m meth c b L xs D cA adC adR qo sa1 sa2) (hnext : LwA Rel p l e s m below meth c b D cA adC adR qo i (140 + i + 7) (20000 + i + 7) 1624) : LwA Rel p l e s m below meth c b D cA adC adR qo i (140 + i) (20000 + i) 606 := by
  obtain ⟨hx, hb, hml, hr, hlocks, hown, hts, hK, hN, hX, hbl, hiC, hiR, hCR, hCo, hRo, hAC, hAR, hAo, hxK, hNc, hxZ, hlt⟩ := id C0
  have hbA : ¬ (fun q : Nat => s.heap.size ≤ q) b := Nat.not_le.mpr hbl
  have hroom : 140 + i ≤ room_1.cells ∧ 20000 + i ≤ room_1.slots := ⟨by show 140 + i ≤ 601024; omega, by show 20000 + i ≤ 7293034; omega⟩
  have h1 : vp_in (nI i + 1) L := lw_h (k := 1) rfl (by omega) hi hL
  have h2 : vp_in (nI i + 2) L := lw_h (k := 2) rfl (by omega) hi hL
  have h3 : vp_in (nI i + 3) L := lw_h (k := 3) rfl (by omega) hi hL
  have h4 : vp_in (nI i + 4) L := lw_h (k := 4) rfl (by omega) hi hL
  have h5 : vp_in (nI i + 5) L := lw_h (k := 5) rfl (by omega) hi hL
  have h6 : vp_in (nI i + 6) L := lw_h (k := 6) rfl (by omega) hi hL
  intro MC MR fo H locs ls hI
  obtain ⟨hR, hPC, hPR, hPo, hS, hl⟩ := hI
  refine lv_aload_n hx hb dL_606 rfl (lv_at hl 1 rfl) ?_
  refine lv_aload_n hx hb dL_607 rfl (lv_at hl 0 rfl) ?_
  refine lv_iload hx hb dL_608 (lv_at hl 4 rfl) ?_
  refine lv_iconst (v := 1) hx hb dL_610 (by decide) ?_
  refine lv_iadd hx hb dL_611 ?_
  refine va_sld hx hb hX hbl hbA hS h1 dL_612 ?_
  refine lv_aload_n hx hb dL_613 rfl (lv_at hl 0 rfl) ?_
  refine lv_iload hx hb dL_614 (lv_at hl 4 rfl) ?_
  refine lv_iconst (v := 2) hx hb dL_616 (by decide) ?_
  refine lv_iadd hx hb dL_617 ?_
  refine va_sld hx hb hX hbl hbA hS h2 dL_618 ?_
  obtain ⟨r, MC1, MR1, hf, hg, hR1⟩ := hop ((xs (nI i + 1).toNatClampNeg)) ((xs (nI i + 2).toNatClampNeg)) MC MR hR
  refine wk_callV (Z := Y_X11_drawn) (as := [.int ((xs (nI i + 1).toNatClampNeg)), .int ((xs (nI i + 2).toNatClampNeg))]) (rest := []) (own := RL) (A0 := fun q => s.heap.size ≤ q) (H0 := s.heap) hx hb hml hts hown hK hN hiC lk_L_66 cv_X11_drawn ob_C_0 rfl (by decide) (by decide) (Nat.le_of_ble_eq_true rfl) hroom (ct_X11_drawn ((xs (nI i + 1).toNatClampNeg)) ((xs (nI i + 2).toNatClampNeg)) MC) hf hPC hS hAC hl.1 dL_619 rfl (fun H1 locs1 hPC hz1 hk1 hS => ?_)
  have hPR := wk_keep hPR (fun q h1 h2 => hk1 q h1 (hCR q h2))
  have hPo := wk_keepo hPo (fun h1 => hk1 qo h1 hCo)
  show W p l e room_1 s m #[.ref b] below meth c H1 locs1 _ _ _ (F0 m 622 ls [.int r])
  refine lv_aload_n hx hb dL_622 rfl (lv_at hl 2 rfl) ?_
  refine lv_aload_n hx hb dL_623 rfl (lv_at hl 0 rfl) ?_
  refine lv_iload hx hb dL_624 (lv_at hl 4 rfl) ?_
  refine lv_iconst (v := 1) hx hb dL_626 (by decide) ?_
  refine lv_iadd hx hb dL_627 ?_
  refine va_sld hx hb hX hbl hbA hS h1 dL_628 ?_
  refine lv_aload_n hx hb dL_629 rfl (lv_at hl 0 rfl) ?_
  refine lv_iload hx hb dL_630 (lv_at hl 4 rfl) ?_
  refine lv_iconst (v := 2) hx hb dL_632 (by decide) ?_
  refine lv_iadd hx hb dL_633 ?_
  refine va_sld hx hb hX hbl hbA hS h2 dL_634 ?_
  refine wk_callV (Z := Y_X12_drawn) (as := [.int ((xs (nI i + 1).toNatClampNeg)), .int ((xs (nI i + 2).toNatClampNeg))]) (rest := [.int r]) (own := RL) (A0 := fun q => s.heap.size ≤ q) (H0 := s.heap) hx hb hml hts hown hK hN hiR lk_L_69 cv_X12_drawn ob_R_0 rfl (by decide) (by decide) (Nat.le_of_ble_eq_true rfl) hroom (ct_X12_drawn ((xs (nI i + 1).toNatClampNeg)) ((xs (nI i + 2).toNatClampNeg)) MR) hg hPR hS hAR hl.1 dL_635 rfl (fun H2 locs2 hPR hz2 hk2 hS => ?_)
  have hPC := wk_keep hPC (fun q h1 h2 => hk2 q h1 (fun h3 => hCR q h3 h2))
  have hPo := wk_keepo hPo (fun h1 => hk2 qo h1 hRo)
  show W p l e room_1 s m #[.ref b] below meth c H2 locs2 _ _ _ (F0 m 638 ls [.int r, .int r])
  refine lv_icmp_eq (tgt := 1624) hx hb dL_638 (by decide) (fun _ => ?_) (fun h => absurd rfl h)
  exact W.widen (by omega) (by omega) (hnext MC1 MR1 fo H2 locs2 ls ⟨hR1, hPC, hPR, hPo, hS, hl⟩)
set_option maxHeartbeats 4000000 in
theorem law_12 {Rel : mm_M → mm_M → Prop} {p : Program} {l : Launch} {e : Env} {s : State} {m : MethodId} {below : List Frame} {meth : Method} {c : Code} {b L : Nat} {xs : Nat → Int32} {D : va_G} {cA : Nat → ClassId} {adC adR : Nat → Nat} {qo sa1 sa2 i : Nat} (hop : ∀ (a1 : Int32) (a2 : Int64), op_i Rel (f_X11_feed a1 a2) (f_X12_feed a1 a2)) (hL : L ≤ 3584) (hi : i + 6 < L) (C0 : LwC p l s m meth c b L xs D cA adC adR qo sa1 sa2) (hnext : LwA Rel p l e s m below meth c b D cA adC adR qo i (140 + i + 7) (20000 + i + 7) 1624) : LwA Rel p l e s m below meth c b D cA adC adR qo i (140 + i) (20000 + i) 698 := by
  obtain ⟨hx, hb, hml, hr, hlocks, hown, hts, hK, hN, hX, hbl, hiC, hiR, hCR, hCo, hRo, hAC, hAR, hAo, hxK, hNc, hxZ, hlt⟩ := id C0
  have hbA : ¬ (fun q : Nat => s.heap.size ≤ q) b := Nat.not_le.mpr hbl
  have hroom : 140 + i ≤ room_1.cells ∧ 20000 + i ≤ room_1.slots := ⟨by show 140 + i ≤ 601024; omega, by show 20000 + i ≤ 7293034; omega⟩
  have h1 : vp_in (nI i + 1) L := lw_h (k := 1) rfl (by omega) hi hL
  have h2 : vp_in (nI i + 2) L := lw_h (k := 2) rfl (by omega) hi hL
  have h3 : vp_in (nI i + 3) L := lw_h (k := 3) rfl (by omega) hi hL
  have h4 : vp_in (nI i + 4) L := lw_h (k := 4) rfl (by omega) hi hL
  have h5 : vp_in (nI i + 5) L := lw_h (k := 5) rfl (by omega) hi hL
  have h6 : vp_in (nI i + 6) L := lw_h (k := 6) rfl (by omega) hi hL
  intro MC MR fo H locs ls hI
  obtain ⟨hR, hPC, hPR, hPo, hS, hl⟩ := hI
  refine lv_aload_n hx hb dL_698 rfl (lv_at hl 1 rfl) ?_
  refine lv_aload_n hx hb dL_699 rfl (lv_at hl 0 rfl) ?_
  refine lv_iload hx hb dL_700 (lv_at hl 4 rfl) ?_
  refine lv_iconst (v := 1) hx hb dL_702 (by decide) ?_
  refine lv_iadd hx hb dL_703 ?_
  refine va_sld hx hb hX hbl hbA hS h1 dL_704 ?_
  refine lv_aload_n hx hb dL_705 rfl (lv_at hl 0 rfl) ?_
  refine lv_iload hx hb dL_706 (lv_at hl 4 rfl) ?_
  refine lv_iconst (v := 2) hx hb dL_708 (by decide) ?_
  refine lv_iadd hx hb dL_709 ?_
  refine va_sld hx hb hX hbl hbA hS h2 dL_710 ?_
  refine lv_i2l hx hb dL_711 rfl ?_
  refine lv_bipush (v := 32) hx hb dL_712 (by decide) ?_
  refine lv_lshl hx hb dL_714 rfl ?_
  refine lv_aload_n hx hb dL_715 rfl (lv_at hl 0 rfl) ?_
  refine lv_iload hx hb dL_716 (lv_at hl 4 rfl) ?_
  refine lv_iconst (v := 3) hx hb dL_718 (by decide) ?_
  refine lv_iadd hx hb dL_719 ?_
  refine va_sld hx hb hX hbl hbA hS h3 dL_720 ?_
  refine lv_i2l hx hb dL_721 rfl ?_
  refine lv_ldc2 hx hb hown (hts _ kn_L_80) dL_722 ?_
  refine lv_land hx hb dL_725 ?_
  refine lv_lor hx hb dL_726 ?_
  obtain ⟨r, MC1, MR1, hf, hg, hR1⟩ := hop ((xs (nI i + 1).toNatClampNeg)) ((((xs (nI i + 2).toNatClampNeg).toInt64 <<< ((32 : Int32).toInt64 &&& 63)) ||| ((xs (nI i + 3).toNatClampNeg).toInt64 &&& (4294967295 : Int64)))) MC MR hR
  refine wk_callV (Z := Y_X11_feed) (as := [.int ((xs (nI i + 1).toNatClampNeg)), .long ((((xs (nI i + 2).toNatClampNeg).toInt64 <<< ((32 : Int32).toInt64 &&& 63)) ||| ((xs (nI i + 3).toNatClampNeg).toInt64 &&& (4294967295 : Int64))))]) (rest := []) (own := RL) (A0 := fun q => s.heap.size ≤ q) (H0 := s.heap) hx hb hml hts hown hK hN hiC lk_L_82 cv_X11_feed ob_C_0 rfl (by decide) (by decide) (Nat.le_of_ble_eq_true rfl) hroom (ct_X11_feed ((xs (nI i + 1).toNatClampNeg)) ((((xs (nI i + 2).toNatClampNeg).toInt64 <<< ((32 : Int32).toInt64 &&& 63)) ||| ((xs (nI i + 3).toNatClampNeg).toInt64 &&& (4294967295 : Int64)))) MC) hf hPC hS hAC hl.1 dL_727 rfl (fun H1 locs1 hPC hz1 hk1 hS => ?_)
  have hPR := wk_keep hPR (fun q h1 h2 => hk1 q h1 (hCR q h2))
  have hPo := wk_keepo hPo (fun h1 => hk1 qo h1 hCo)
  show W p l e room_1 s m #[.ref b] below meth c H1 locs1 _ _ _ (F0 m 730 ls [.int r])
  refine lv_aload_n hx hb dL_730 rfl (lv_at hl 2 rfl) ?_
  refine lv_aload_n hx hb dL_731 rfl (lv_at hl 0 rfl) ?_
  refine lv_iload hx hb dL_732 (lv_at hl 4 rfl) ?_
  refine lv_iconst (v := 1) hx hb dL_734 (by decide) ?_
  refine lv_iadd hx hb dL_735 ?_
  refine va_sld hx hb hX hbl hbA hS h1 dL_736 ?_
  refine lv_aload_n hx hb dL_737 rfl (lv_at hl 0 rfl) ?_
  refine lv_iload hx hb dL_738 (lv_at hl 4 rfl) ?_
  refine lv_iconst (v := 2) hx hb dL_740 (by decide) ?_
  refine lv_iadd hx hb dL_741 ?_
  refine va_sld hx hb hX hbl hbA hS h2 dL_742 ?_
  refine lv_i2l hx hb dL_743 rfl ?_
  refine lv_bipush (v := 32) hx hb dL_744 (by decide) ?_
  refine lv_lshl hx hb dL_746 rfl ?_
  refine lv_aload_n hx hb dL_747 rfl (lv_at hl 0 rfl) ?_
  refine lv_iload hx hb dL_748 (lv_at hl 4 rfl) ?_
  refine lv_iconst (v := 3) hx hb dL_750 (by decide) ?_
  refine lv_iadd hx hb dL_751 ?_
  refine va_sld hx hb hX hbl hbA hS h3 dL_752 ?_
  refine lv_i2l hx hb dL_753 rfl ?_
  refine lv_ldc2 hx hb hown (hts _ kn_L_80) dL_754 ?_
  refine lv_land hx hb dL_757 ?_
  refine lv_lor hx hb dL_758 ?_
  refine wk_callV (Z := Y_X12_feed) (as := [.int ((xs (nI i + 1).toNatClampNeg)), .long ((((xs (nI i + 2).toNatClampNeg).toInt64 <<< ((32 : Int32).toInt64 &&& 63)) ||| ((xs (nI i + 3).toNatClampNeg).toInt64 &&& (4294967295 : Int64))))]) (rest := [.int r]) (own := RL) (A0 := fun q => s.heap.size ≤ q) (H0 := s.heap) hx hb hml hts hown hK hN hiR lk_L_86 cv_X12_feed ob_R_0 rfl (by decide) (by decide) (Nat.le_of_ble_eq_true rfl) hroom (ct_X12_feed ((xs (nI i + 1).toNatClampNeg)) ((((xs (nI i + 2).toNatClampNeg).toInt64 <<< ((32 : Int32).toInt64 &&& 63)) ||| ((xs (nI i + 3).toNatClampNeg).toInt64 &&& (4294967295 : Int64)))) MR) hg hPR hS hAR hl.1 dL_759 rfl (fun H2 locs2 hPR hz2 hk2 hS => ?_)
  have hPC := wk_keep hPC (fun q h1 h2 => hk2 q h1 (fun h3 => hCR q h3 h2))
  have hPo := wk_keepo hPo (fun h1 => hk2 qo h1 hRo)
  show W p l e room_1 s m #[.ref b] below meth c H2 locs2 _ _ _ (F0 m 762 ls [.int r, .int r])
  refine lv_icmp_eq (tgt := 1624) hx hb dL_762 (by decide) (fun _ => ?_) (fun h => absurd rfl h)
  exact W.widen (by omega) (by omega) (hnext MC1 MR1 fo H2 locs2 ls ⟨hR1, hPC, hPR, hPo, hS, hl⟩)
set_option maxHeartbeats 4000000 in
theorem law_13 {Rel : mm_M → mm_M → Prop} {p : Program} {l : Launch} {e : Env} {s : State} {m : MethodId} {below : List Frame} {meth : Method} {c : Code} {b L : Nat} {xs : Nat → Int32} {D : va_G} {cA : Nat → ClassId} {adC adR : Nat → Nat} {qo sa1 sa2 i : Nat} (hop : ∀ (a1 : Int32) (a2 : Int32), op_i Rel (f_X11_rule a1 a2) (f_X12_rule a1 a2)) (hL : L ≤ 3584) (hi : i + 6 < L) (C0 : LwC p l s m meth c b L xs D cA adC adR qo sa1 sa2) (hnext : LwA Rel p l e s m below meth c b D cA adC adR qo i (140 + i + 7) (20000 + i + 7) 1624) : LwA Rel p l e s m below meth c b D cA adC adR qo i (140 + i) (20000 + i) 767 := by
  obtain ⟨hx, hb, hml, hr, hlocks, hown, hts, hK, hN, hX, hbl, hiC, hiR, hCR, hCo, hRo, hAC, hAR, hAo, hxK, hNc, hxZ, hlt⟩ := id C0
  have hbA : ¬ (fun q : Nat => s.heap.size ≤ q) b := Nat.not_le.mpr hbl
  have hroom : 140 + i ≤ room_1.cells ∧ 20000 + i ≤ room_1.slots := ⟨by show 140 + i ≤ 601024; omega, by show 20000 + i ≤ 7293034; omega⟩
  have h1 : vp_in (nI i + 1) L := lw_h (k := 1) rfl (by omega) hi hL
  have h2 : vp_in (nI i + 2) L := lw_h (k := 2) rfl (by omega) hi hL
  have h3 : vp_in (nI i + 3) L := lw_h (k := 3) rfl (by omega) hi hL
  have h4 : vp_in (nI i + 4) L := lw_h (k := 4) rfl (by omega) hi hL
  have h5 : vp_in (nI i + 5) L := lw_h (k := 5) rfl (by omega) hi hL
  have h6 : vp_in (nI i + 6) L := lw_h (k := 6) rfl (by omega) hi hL
  intro MC MR fo H locs ls hI
  obtain ⟨hR, hPC, hPR, hPo, hS, hl⟩ := hI
  refine lv_aload_n hx hb dL_767 rfl (lv_at hl 1 rfl) ?_
  refine lv_aload_n hx hb dL_768 rfl (lv_at hl 0 rfl) ?_
  refine lv_iload hx hb dL_769 (lv_at hl 4 rfl) ?_
  refine lv_iconst (v := 1) hx hb dL_771 (by decide) ?_
  refine lv_iadd hx hb dL_772 ?_
  refine va_sld hx hb hX hbl hbA hS h1 dL_773 ?_
  refine lv_aload_n hx hb dL_774 rfl (lv_at hl 0 rfl) ?_
  refine lv_iload hx hb dL_775 (lv_at hl 4 rfl) ?_
  refine lv_iconst (v := 2) hx hb dL_777 (by decide) ?_
  refine lv_iadd hx hb dL_778 ?_
  refine va_sld hx hb hX hbl hbA hS h2 dL_779 ?_
  obtain ⟨r, MC1, MR1, hf, hg, hR1⟩ := hop ((xs (nI i + 1).toNatClampNeg)) ((xs (nI i + 2).toNatClampNeg)) MC MR hR
  refine wk_callV (Z := Y_X11_rule) (as := [.int ((xs (nI i + 1).toNatClampNeg)), .int ((xs (nI i + 2).toNatClampNeg))]) (rest := []) (own := RL) (A0 := fun q => s.heap.size ≤ q) (H0 := s.heap) hx hb hml hts hown hK hN hiC lk_L_87 cv_X11_rule ob_C_0 rfl (by decide) (by decide) (Nat.le_of_ble_eq_true rfl) hroom (ct_X11_rule ((xs (nI i + 1).toNatClampNeg)) ((xs (nI i + 2).toNatClampNeg)) MC) hf hPC hS hAC hl.1 dL_780 rfl (fun H1 locs1 hPC hz1 hk1 hS => ?_)
  have hPR := wk_keep hPR (fun q h1 h2 => hk1 q h1 (hCR q h2))
  have hPo := wk_keepo hPo (fun h1 => hk1 qo h1 hCo)
  show W p l e room_1 s m #[.ref b] below meth c H1 locs1 _ _ _ (F0 m 783 ls [.int r])
  refine lv_aload_n hx hb dL_783 rfl (lv_at hl 2 rfl) ?_
  refine lv_aload_n hx hb dL_784 rfl (lv_at hl 0 rfl) ?_
  refine lv_iload hx hb dL_785 (lv_at hl 4 rfl) ?_
  refine lv_iconst (v := 1) hx hb dL_787 (by decide) ?_
  refine lv_iadd hx hb dL_788 ?_
  refine va_sld hx hb hX hbl hbA hS h1 dL_789 ?_
  refine lv_aload_n hx hb dL_790 rfl (lv_at hl 0 rfl) ?_
  refine lv_iload hx hb dL_791 (lv_at hl 4 rfl) ?_
  refine lv_iconst (v := 2) hx hb dL_793 (by decide) ?_
  refine lv_iadd hx hb dL_794 ?_
  refine va_sld hx hb hX hbl hbA hS h2 dL_795 ?_
  refine wk_callV (Z := Y_X12_rule) (as := [.int ((xs (nI i + 1).toNatClampNeg)), .int ((xs (nI i + 2).toNatClampNeg))]) (rest := [.int r]) (own := RL) (A0 := fun q => s.heap.size ≤ q) (H0 := s.heap) hx hb hml hts hown hK hN hiR lk_L_90 cv_X12_rule ob_R_0 rfl (by decide) (by decide) (Nat.le_of_ble_eq_true rfl) hroom (ct_X12_rule ((xs (nI i + 1).toNatClampNeg)) ((xs (nI i + 2).toNatClampNeg)) MR) hg hPR hS hAR hl.1 dL_796 rfl (fun H2 locs2 hPR hz2 hk2 hS => ?_)
  have hPC := wk_keep hPC (fun q h1 h2 => hk2 q h1 (fun h3 => hCR q h3 h2))
  have hPo := wk_keepo hPo (fun h1 => hk2 qo h1 hRo)
  show W p l e room_1 s m #[.ref b] below meth c H2 locs2 _ _ _ (F0 m 799 ls [.int r, .int r])
  refine lv_icmp_eq (tgt := 1624) hx hb dL_799 (by decide) (fun _ => ?_) (fun h => absurd rfl h)
  exact W.widen (by omega) (by omega) (hnext MC1 MR1 fo H2 locs2 ls ⟨hR1, hPC, hPR, hPo, hS, hl⟩)
set_option maxHeartbeats 4000000 in
theorem law_14 {Rel : mm_M → mm_M → Prop} {p : Program} {l : Launch} {e : Env} {s : State} {m : MethodId} {below : List Frame} {meth : Method} {c : Code} {b L : Nat} {xs : Nat → Int32} {D : va_G} {cA : Nat → ClassId} {adC adR : Nat → Nat} {qo sa1 sa2 i : Nat} (hop : ∀ (a1 : Int32) (a2 : Int32), op_i Rel (f_X11_force a1 a2) (f_X12_force a1 a2)) (hL : L ≤ 3584) (hi : i + 6 < L) (C0 : LwC p l s m meth c b L xs D cA adC adR qo sa1 sa2) (hnext : LwA Rel p l e s m below meth c b D cA adC adR qo i (140 + i + 7) (20000 + i + 7) 1624) : LwA Rel p l e s m below meth c b D cA adC adR qo i (140 + i) (20000 + i) 804 := by
  obtain ⟨hx, hb, hml, hr, hlocks, hown, hts, hK, hN, hX, hbl, hiC, hiR, hCR, hCo, hRo, hAC, hAR, hAo, hxK, hNc, hxZ, hlt⟩ := id C0
  have hbA : ¬ (fun q : Nat => s.heap.size ≤ q) b := Nat.not_le.mpr hbl
  have hroom : 140 + i ≤ room_1.cells ∧ 20000 + i ≤ room_1.slots := ⟨by show 140 + i ≤ 601024; omega, by show 20000 + i ≤ 7293034; omega⟩
  have h1 : vp_in (nI i + 1) L := lw_h (k := 1) rfl (by omega) hi hL
  have h2 : vp_in (nI i + 2) L := lw_h (k := 2) rfl (by omega) hi hL
  have h3 : vp_in (nI i + 3) L := lw_h (k := 3) rfl (by omega) hi hL
  have h4 : vp_in (nI i + 4) L := lw_h (k := 4) rfl (by omega) hi hL
  have h5 : vp_in (nI i + 5) L := lw_h (k := 5) rfl (by omega) hi hL
  have h6 : vp_in (nI i + 6) L := lw_h (k := 6) rfl (by omega) hi hL
  intro MC MR fo H locs ls hI
  obtain ⟨hR, hPC, hPR, hPo, hS, hl⟩ := hI
  refine lv_aload_n hx hb dL_804 rfl (lv_at hl 1 rfl) ?_
  refine lv_aload_n hx hb dL_805 rfl (lv_at hl 0 rfl) ?_
  refine lv_iload hx hb dL_806 (lv_at hl 4 rfl) ?_
  refine lv_iconst (v := 1) hx hb dL_808 (by decide) ?_
  refine lv_iadd hx hb dL_809 ?_
  refine va_sld hx hb hX hbl hbA hS h1 dL_810 ?_
  refine lv_aload_n hx hb dL_811 rfl (lv_at hl 0 rfl) ?_
  refine lv_iload hx hb dL_812 (lv_at hl 4 rfl) ?_
  refine lv_iconst (v := 2) hx hb dL_814 (by decide) ?_
  refine lv_iadd hx hb dL_815 ?_
  refine va_sld hx hb hX hbl hbA hS h2 dL_816 ?_
  obtain ⟨r, MC1, MR1, hf, hg, hR1⟩ := hop ((xs (nI i + 1).toNatClampNeg)) ((xs (nI i + 2).toNatClampNeg)) MC MR hR
  refine wk_callV (Z := Y_X11_force) (as := [.int ((xs (nI i + 1).toNatClampNeg)), .int ((xs (nI i + 2).toNatClampNeg))]) (rest := []) (own := RL) (A0 := fun q => s.heap.size ≤ q) (H0 := s.heap) hx hb hml hts hown hK hN hiC lk_L_91 cv_X11_force ob_C_0 rfl (by decide) (by decide) (Nat.le_of_ble_eq_true rfl) hroom (ct_X11_force ((xs (nI i + 1).toNatClampNeg)) ((xs (nI i + 2).toNatClampNeg)) MC) hf hPC hS hAC hl.1 dL_817 rfl (fun H1 locs1 hPC hz1 hk1 hS => ?_)
  have hPR := wk_keep hPR (fun q h1 h2 => hk1 q h1 (hCR q h2))
  have hPo := wk_keepo hPo (fun h1 => hk1 qo h1 hCo)
  show W p l e room_1 s m #[.ref b] below meth c H1 locs1 _ _ _ (F0 m 820 ls [.int r])
  refine lv_aload_n hx hb dL_820 rfl (lv_at hl 2 rfl) ?_
  refine lv_aload_n hx hb dL_821 rfl (lv_at hl 0 rfl) ?_
  refine lv_iload hx hb dL_822 (lv_at hl 4 rfl) ?_
  refine lv_iconst (v := 1) hx hb dL_824 (by decide) ?_
  refine lv_iadd hx hb dL_825 ?_
  refine va_sld hx hb hX hbl hbA hS h1 dL_826 ?_
  refine lv_aload_n hx hb dL_827 rfl (lv_at hl 0 rfl) ?_
  refine lv_iload hx hb dL_828 (lv_at hl 4 rfl) ?_
  refine lv_iconst (v := 2) hx hb dL_830 (by decide) ?_
  refine lv_iadd hx hb dL_831 ?_
  refine va_sld hx hb hX hbl hbA hS h2 dL_832 ?_
  refine wk_callV (Z := Y_X12_force) (as := [.int ((xs (nI i + 1).toNatClampNeg)), .int ((xs (nI i + 2).toNatClampNeg))]) (rest := [.int r]) (own := RL) (A0 := fun q => s.heap.size ≤ q) (H0 := s.heap) hx hb hml hts hown hK hN hiR lk_L_94 cv_X12_force ob_R_0 rfl (by decide) (by decide) (Nat.le_of_ble_eq_true rfl) hroom (ct_X12_force ((xs (nI i + 1).toNatClampNeg)) ((xs (nI i + 2).toNatClampNeg)) MR) hg hPR hS hAR hl.1 dL_833 rfl (fun H2 locs2 hPR hz2 hk2 hS => ?_)
  have hPC := wk_keep hPC (fun q h1 h2 => hk2 q h1 (fun h3 => hCR q h3 h2))
  have hPo := wk_keepo hPo (fun h1 => hk2 qo h1 hRo)
  show W p l e room_1 s m #[.ref b] below meth c H2 locs2 _ _ _ (F0 m 836 ls [.int r, .int r])
  refine lv_icmp_eq (tgt := 1624) hx hb dL_836 (by decide) (fun _ => ?_) (fun h => absurd rfl h)
  exact W.widen (by omega) (by omega) (hnext MC1 MR1 fo H2 locs2 ls ⟨hR1, hPC, hPR, hPo, hS, hl⟩)
set_option maxHeartbeats 4000000 in
theorem law_15 {Rel : mm_M → mm_M → Prop} {p : Program} {l : Launch} {e : Env} {s : State} {m : MethodId} {below : List Frame} {meth : Method} {c : Code} {b L : Nat} {xs : Nat → Int32} {D : va_G} {cA : Nat → ClassId} {adC adR : Nat → Nat} {qo sa1 sa2 i : Nat} (hop : ∀ (a1 : Int32) (a2 : Int32) (a3 : Int32) (a4 : Int32) (a5 : Int32) (a6 : Int32), op_i Rel (f_X11_test a1 a2 a3 a4 a5 a6) (f_X12_test a1 a2 a3 a4 a5 a6)) (hL : L ≤ 3584) (hi : i + 6 < L) (C0 : LwC p l s m meth c b L xs D cA adC adR qo sa1 sa2) (hnext : LwA Rel p l e s m below meth c b D cA adC adR qo i (140 + i + 7) (20000 + i + 7) 1624) : LwA Rel p l e s m below meth c b D cA adC adR qo i (140 + i) (20000 + i) 841 := by
  obtain ⟨hx, hb, hml, hr, hlocks, hown, hts, hK, hN, hX, hbl, hiC, hiR, hCR, hCo, hRo, hAC, hAR, hAo, hxK, hNc, hxZ, hlt⟩ := id C0
  have hbA : ¬ (fun q : Nat => s.heap.size ≤ q) b := Nat.not_le.mpr hbl
  have hroom : 140 + i ≤ room_1.cells ∧ 20000 + i ≤ room_1.slots := ⟨by show 140 + i ≤ 601024; omega, by show 20000 + i ≤ 7293034; omega⟩
  have h1 : vp_in (nI i + 1) L := lw_h (k := 1) rfl (by omega) hi hL
  have h2 : vp_in (nI i + 2) L := lw_h (k := 2) rfl (by omega) hi hL
  have h3 : vp_in (nI i + 3) L := lw_h (k := 3) rfl (by omega) hi hL
  have h4 : vp_in (nI i + 4) L := lw_h (k := 4) rfl (by omega) hi hL
  have h5 : vp_in (nI i + 5) L := lw_h (k := 5) rfl (by omega) hi hL
  have h6 : vp_in (nI i + 6) L := lw_h (k := 6) rfl (by omega) hi hL
  intro MC MR fo H locs ls hI
  obtain ⟨hR, hPC, hPR, hPo, hS, hl⟩ := hI
  refine lv_aload_n hx hb dL_841 rfl (lv_at hl 1 rfl) ?_
  refine lv_aload_n hx hb dL_842 rfl (lv_at hl 0 rfl) ?_
  refine lv_iload hx hb dL_843 (lv_at hl 4 rfl) ?_
  refine lv_iconst (v := 1) hx hb dL_845 (by decide) ?_
  refine lv_iadd hx hb dL_846 ?_
  refine va_sld hx hb hX hbl hbA hS h1 dL_847 ?_
  refine lv_aload_n hx hb dL_848 rfl (lv_at hl 0 rfl) ?_
  refine lv_iload hx hb dL_849 (lv_at hl 4 rfl) ?_
  refine lv_iconst (v := 2) hx hb dL_851 (by decide) ?_
  refine lv_iadd hx hb dL_852 ?_
  refine va_sld hx hb hX hbl hbA hS h2 dL_853 ?_
  refine lv_aload_n hx hb dL_854 rfl (lv_at hl 0 rfl) ?_
  refine lv_iload hx hb dL_855 (lv_at hl 4 rfl) ?_
  refine lv_iconst (v := 3) hx hb dL_857 (by decide) ?_
  refine lv_iadd hx hb dL_858 ?_
  refine va_sld hx hb hX hbl hbA hS h3 dL_859 ?_
  refine lv_aload_n hx hb dL_860 rfl (lv_at hl 0 rfl) ?_
  refine lv_iload hx hb dL_861 (lv_at hl 4 rfl) ?_
  refine lv_iconst (v := 4) hx hb dL_863 (by decide) ?_
  refine lv_iadd hx hb dL_864 ?_
  refine va_sld hx hb hX hbl hbA hS h4 dL_865 ?_
  refine lv_aload_n hx hb dL_866 rfl (lv_at hl 0 rfl) ?_
  refine lv_iload hx hb dL_867 (lv_at hl 4 rfl) ?_
  refine lv_iconst (v := 5) hx hb dL_869 (by decide) ?_
  refine lv_iadd hx hb dL_870 ?_
  refine va_sld hx hb hX hbl hbA hS h5 dL_871 ?_
  refine lv_aload_n hx hb dL_872 rfl (lv_at hl 0 rfl) ?_
  refine lv_iload hx hb dL_873 (lv_at hl 4 rfl) ?_
  refine lv_bipush (v := 6) hx hb dL_875 (by decide) ?_
  refine lv_iadd hx hb dL_877 ?_
  refine va_sld hx hb hX hbl hbA hS h6 dL_878 ?_
  obtain ⟨r, MC1, MR1, hf, hg, hR1⟩ := hop ((xs (nI i + 1).toNatClampNeg)) ((xs (nI i + 2).toNatClampNeg)) ((xs (nI i + 3).toNatClampNeg)) ((xs (nI i + 4).toNatClampNeg)) ((xs (nI i + 5).toNatClampNeg)) ((xs (nI i + 6).toNatClampNeg)) MC MR hR
  refine wk_callV (Z := Y_X11_test) (as := [.int ((xs (nI i + 1).toNatClampNeg)), .int ((xs (nI i + 2).toNatClampNeg)), .int ((xs (nI i + 3).toNatClampNeg)), .int ((xs (nI i + 4).toNatClampNeg)), .int ((xs (nI i + 5).toNatClampNeg)), .int ((xs (nI i + 6).toNatClampNeg))]) (rest := []) (own := RL) (A0 := fun q => s.heap.size ≤ q) (H0 := s.heap) hx hb hml hts hown hK hN hiC lk_L_95 cv_X11_test ob_C_0 rfl (by decide) (by decide) (Nat.le_of_ble_eq_true rfl) hroom (ct_X11_test ((xs (nI i + 1).toNatClampNeg)) ((xs (nI i + 2).toNatClampNeg)) ((xs (nI i + 3).toNatClampNeg)) ((xs (nI i + 4).toNatClampNeg)) ((xs (nI i + 5).toNatClampNeg)) ((xs (nI i + 6).toNatClampNeg)) MC) hf hPC hS hAC hl.1 dL_879 rfl (fun H1 locs1 hPC hz1 hk1 hS => ?_)
  have hPR := wk_keep hPR (fun q h1 h2 => hk1 q h1 (hCR q h2))
  have hPo := wk_keepo hPo (fun h1 => hk1 qo h1 hCo)
  show W p l e room_1 s m #[.ref b] below meth c H1 locs1 _ _ _ (F0 m 882 ls [.int r])
  refine lv_aload_n hx hb dL_882 rfl (lv_at hl 2 rfl) ?_
  refine lv_aload_n hx hb dL_883 rfl (lv_at hl 0 rfl) ?_
  refine lv_iload hx hb dL_884 (lv_at hl 4 rfl) ?_
  refine lv_iconst (v := 1) hx hb dL_886 (by decide) ?_
  refine lv_iadd hx hb dL_887 ?_
  refine va_sld hx hb hX hbl hbA hS h1 dL_888 ?_
  refine lv_aload_n hx hb dL_889 rfl (lv_at hl 0 rfl) ?_
  refine lv_iload hx hb dL_890 (lv_at hl 4 rfl) ?_
  refine lv_iconst (v := 2) hx hb dL_892 (by decide) ?_
  refine lv_iadd hx hb dL_893 ?_
  refine va_sld hx hb hX hbl hbA hS h2 dL_894 ?_
  refine lv_aload_n hx hb dL_895 rfl (lv_at hl 0 rfl) ?_
  refine lv_iload hx hb dL_896 (lv_at hl 4 rfl) ?_
  refine lv_iconst (v := 3) hx hb dL_898 (by decide) ?_
  refine lv_iadd hx hb dL_899 ?_
  refine va_sld hx hb hX hbl hbA hS h3 dL_900 ?_
  refine lv_aload_n hx hb dL_901 rfl (lv_at hl 0 rfl) ?_
  refine lv_iload hx hb dL_902 (lv_at hl 4 rfl) ?_
  refine lv_iconst (v := 4) hx hb dL_904 (by decide) ?_
  refine lv_iadd hx hb dL_905 ?_
  refine va_sld hx hb hX hbl hbA hS h4 dL_906 ?_
  refine lv_aload_n hx hb dL_907 rfl (lv_at hl 0 rfl) ?_
  refine lv_iload hx hb dL_908 (lv_at hl 4 rfl) ?_
  refine lv_iconst (v := 5) hx hb dL_910 (by decide) ?_
  refine lv_iadd hx hb dL_911 ?_
  refine va_sld hx hb hX hbl hbA hS h5 dL_912 ?_
  refine lv_aload_n hx hb dL_913 rfl (lv_at hl 0 rfl) ?_
  refine lv_iload hx hb dL_914 (lv_at hl 4 rfl) ?_
  refine lv_bipush (v := 6) hx hb dL_916 (by decide) ?_
  refine lv_iadd hx hb dL_918 ?_
  refine va_sld hx hb hX hbl hbA hS h6 dL_919 ?_
  refine wk_callV (Z := Y_X12_test) (as := [.int ((xs (nI i + 1).toNatClampNeg)), .int ((xs (nI i + 2).toNatClampNeg)), .int ((xs (nI i + 3).toNatClampNeg)), .int ((xs (nI i + 4).toNatClampNeg)), .int ((xs (nI i + 5).toNatClampNeg)), .int ((xs (nI i + 6).toNatClampNeg))]) (rest := [.int r]) (own := RL) (A0 := fun q => s.heap.size ≤ q) (H0 := s.heap) hx hb hml hts hown hK hN hiR lk_L_99 cv_X12_test ob_R_0 rfl (by decide) (by decide) (Nat.le_of_ble_eq_true rfl) hroom (ct_X12_test ((xs (nI i + 1).toNatClampNeg)) ((xs (nI i + 2).toNatClampNeg)) ((xs (nI i + 3).toNatClampNeg)) ((xs (nI i + 4).toNatClampNeg)) ((xs (nI i + 5).toNatClampNeg)) ((xs (nI i + 6).toNatClampNeg)) MR) hg hPR hS hAR hl.1 dL_920 rfl (fun H2 locs2 hPR hz2 hk2 hS => ?_)
  have hPC := wk_keep hPC (fun q h1 h2 => hk2 q h1 (fun h3 => hCR q h3 h2))
  have hPo := wk_keepo hPo (fun h1 => hk2 qo h1 hRo)
  show W p l e room_1 s m #[.ref b] below meth c H2 locs2 _ _ _ (F0 m 923 ls [.int r, .int r])
  refine lv_icmp_eq (tgt := 1624) hx hb dL_923 (by decide) (fun _ => ?_) (fun h => absurd rfl h)
  exact W.widen (by omega) (by omega) (hnext MC1 MR1 fo H2 locs2 ls ⟨hR1, hPC, hPR, hPo, hS, hl⟩)
set_option maxHeartbeats 4000000 in
theorem law_16 {Rel : mm_M → mm_M → Prop} {p : Program} {l : Launch} {e : Env} {s : State} {m : MethodId} {below : List Frame} {meth : Method} {c : Code} {b L : Nat} {xs : Nat → Int32} {D : va_G} {cA : Nat → ClassId} {adC adR : Nat → Nat} {qo sa1 sa2 i : Nat} (hop : ∀ (a1 : Int32), op_i Rel (f_X11_appeal a1) (f_X12_appeal a1)) (hL : L ≤ 3584) (hi : i + 6 < L) (C0 : LwC p l s m meth c b L xs D cA adC adR qo sa1 sa2) (hnext : LwA Rel p l e s m below meth c b D cA adC adR qo i (140 + i + 7) (20000 + i + 7) 1624) : LwA Rel p l e s m below meth c b D cA adC adR qo i (140 + i) (20000 + i) 928 := by
  obtain ⟨hx, hb, hml, hr, hlocks, hown, hts, hK, hN, hX, hbl, hiC, hiR, hCR, hCo, hRo, hAC, hAR, hAo, hxK, hNc, hxZ, hlt⟩ := id C0
  have hbA : ¬ (fun q : Nat => s.heap.size ≤ q) b := Nat.not_le.mpr hbl
  have hroom : 140 + i ≤ room_1.cells ∧ 20000 + i ≤ room_1.slots := ⟨by show 140 + i ≤ 601024; omega, by show 20000 + i ≤ 7293034; omega⟩
  have h1 : vp_in (nI i + 1) L := lw_h (k := 1) rfl (by omega) hi hL
  have h2 : vp_in (nI i + 2) L := lw_h (k := 2) rfl (by omega) hi hL
  have h3 : vp_in (nI i + 3) L := lw_h (k := 3) rfl (by omega) hi hL
  have h4 : vp_in (nI i + 4) L := lw_h (k := 4) rfl (by omega) hi hL
  have h5 : vp_in (nI i + 5) L := lw_h (k := 5) rfl (by omega) hi hL
  have h6 : vp_in (nI i + 6) L := lw_h (k := 6) rfl (by omega) hi hL
  intro MC MR fo H locs ls hI
  obtain ⟨hR, hPC, hPR, hPo, hS, hl⟩ := hI
  refine lv_aload_n hx hb dL_928 rfl (lv_at hl 1 rfl) ?_
  refine lv_aload_n hx hb dL_929 rfl (lv_at hl 0 rfl) ?_
  refine lv_iload hx hb dL_930 (lv_at hl 4 rfl) ?_
  refine lv_iconst (v := 1) hx hb dL_932 (by decide) ?_
  refine lv_iadd hx hb dL_933 ?_
  refine va_sld hx hb hX hbl hbA hS h1 dL_934 ?_
  obtain ⟨r, MC1, MR1, hf, hg, hR1⟩ := hop ((xs (nI i + 1).toNatClampNeg)) MC MR hR
  refine wk_callV (Z := Y_X11_appeal) (as := [.int ((xs (nI i + 1).toNatClampNeg))]) (rest := []) (own := RL) (A0 := fun q => s.heap.size ≤ q) (H0 := s.heap) hx hb hml hts hown hK hN hiC lk_L_100 cv_X11_appeal ob_C_0 rfl (by decide) (by decide) (Nat.le_of_ble_eq_true rfl) hroom (ct_X11_appeal ((xs (nI i + 1).toNatClampNeg)) MC) hf hPC hS hAC hl.1 dL_935 rfl (fun H1 locs1 hPC hz1 hk1 hS => ?_)
  have hPR := wk_keep hPR (fun q h1 h2 => hk1 q h1 (hCR q h2))
  have hPo := wk_keepo hPo (fun h1 => hk1 qo h1 hCo)
  show W p l e room_1 s m #[.ref b] below meth c H1 locs1 _ _ _ (F0 m 938 ls [.int r])
  refine lv_aload_n hx hb dL_938 rfl (lv_at hl 2 rfl) ?_
  refine lv_aload_n hx hb dL_939 rfl (lv_at hl 0 rfl) ?_
  refine lv_iload hx hb dL_940 (lv_at hl 4 rfl) ?_
  refine lv_iconst (v := 1) hx hb dL_942 (by decide) ?_
  refine lv_iadd hx hb dL_943 ?_
  refine va_sld hx hb hX hbl hbA hS h1 dL_944 ?_
  refine wk_callV (Z := Y_X12_appeal) (as := [.int ((xs (nI i + 1).toNatClampNeg))]) (rest := [.int r]) (own := RL) (A0 := fun q => s.heap.size ≤ q) (H0 := s.heap) hx hb hml hts hown hK hN hiR lk_L_103 cv_X12_appeal ob_R_0 rfl (by decide) (by decide) (Nat.le_of_ble_eq_true rfl) hroom (ct_X12_appeal ((xs (nI i + 1).toNatClampNeg)) MR) hg hPR hS hAR hl.1 dL_945 rfl (fun H2 locs2 hPR hz2 hk2 hS => ?_)
  have hPC := wk_keep hPC (fun q h1 h2 => hk2 q h1 (fun h3 => hCR q h3 h2))
  have hPo := wk_keepo hPo (fun h1 => hk2 qo h1 hRo)
  show W p l e room_1 s m #[.ref b] below meth c H2 locs2 _ _ _ (F0 m 948 ls [.int r, .int r])
  refine lv_icmp_eq (tgt := 1624) hx hb dL_948 (by decide) (fun _ => ?_) (fun h => absurd rfl h)
  exact W.widen (by omega) (by omega) (hnext MC1 MR1 fo H2 locs2 ls ⟨hR1, hPC, hPR, hPo, hS, hl⟩)
set_option maxHeartbeats 4000000 in
theorem law_17 {Rel : mm_M → mm_M → Prop} {p : Program} {l : Launch} {e : Env} {s : State} {m : MethodId} {below : List Frame} {meth : Method} {c : Code} {b L : Nat} {xs : Nat → Int32} {D : va_G} {cA : Nat → ClassId} {adC adR : Nat → Nat} {qo sa1 sa2 i : Nat} (hop : ∀ (a1 : Int32) (a2 : Int32) (a3 : Int32), op_i Rel (f_X11_testOf a1 a2 a3) (f_X12_testOf a1 a2 a3)) (hL : L ≤ 3584) (hi : i + 6 < L) (C0 : LwC p l s m meth c b L xs D cA adC adR qo sa1 sa2) (hnext : LwA Rel p l e s m below meth c b D cA adC adR qo i (140 + i + 7) (20000 + i + 7) 1624) : LwA Rel p l e s m below meth c b D cA adC adR qo i (140 + i) (20000 + i) 953 := by
  obtain ⟨hx, hb, hml, hr, hlocks, hown, hts, hK, hN, hX, hbl, hiC, hiR, hCR, hCo, hRo, hAC, hAR, hAo, hxK, hNc, hxZ, hlt⟩ := id C0
  have hbA : ¬ (fun q : Nat => s.heap.size ≤ q) b := Nat.not_le.mpr hbl
  have hroom : 140 + i ≤ room_1.cells ∧ 20000 + i ≤ room_1.slots := ⟨by show 140 + i ≤ 601024; omega, by show 20000 + i ≤ 7293034; omega⟩
  have h1 : vp_in (nI i + 1) L := lw_h (k := 1) rfl (by omega) hi hL
  have h2 : vp_in (nI i + 2) L := lw_h (k := 2) rfl (by omega) hi hL
  have h3 : vp_in (nI i + 3) L := lw_h (k := 3) rfl (by omega) hi hL
  have h4 : vp_in (nI i + 4) L := lw_h (k := 4) rfl (by omega) hi hL
  have h5 : vp_in (nI i + 5) L := lw_h (k := 5) rfl (by omega) hi hL
  have h6 : vp_in (nI i + 6) L := lw_h (k := 6) rfl (by omega) hi hL
  intro MC MR fo H locs ls hI
  obtain ⟨hR, hPC, hPR, hPo, hS, hl⟩ := hI
  refine lv_aload_n hx hb dL_953 rfl (lv_at hl 1 rfl) ?_
  refine lv_aload_n hx hb dL_954 rfl (lv_at hl 0 rfl) ?_
  refine lv_iload hx hb dL_955 (lv_at hl 4 rfl) ?_
  refine lv_iconst (v := 1) hx hb dL_957 (by decide) ?_
  refine lv_iadd hx hb dL_958 ?_
  refine va_sld hx hb hX hbl hbA hS h1 dL_959 ?_
  refine lv_aload_n hx hb dL_960 rfl (lv_at hl 0 rfl) ?_
  refine lv_iload hx hb dL_961 (lv_at hl 4 rfl) ?_
  refine lv_iconst (v := 2) hx hb dL_963 (by decide) ?_
  refine lv_iadd hx hb dL_964 ?_
  refine va_sld hx hb hX hbl hbA hS h2 dL_965 ?_
  refine lv_aload_n hx hb dL_966 rfl (lv_at hl 0 rfl) ?_
  refine lv_iload hx hb dL_967 (lv_at hl 4 rfl) ?_
  refine lv_iconst (v := 3) hx hb dL_969 (by decide) ?_
  refine lv_iadd hx hb dL_970 ?_
  refine va_sld hx hb hX hbl hbA hS h3 dL_971 ?_
  obtain ⟨r, MC1, MR1, hf, hg, hR1⟩ := hop ((xs (nI i + 1).toNatClampNeg)) ((xs (nI i + 2).toNatClampNeg)) ((xs (nI i + 3).toNatClampNeg)) MC MR hR
  refine wk_callV (Z := Y_X11_testOf) (as := [.int ((xs (nI i + 1).toNatClampNeg)), .int ((xs (nI i + 2).toNatClampNeg)), .int ((xs (nI i + 3).toNatClampNeg))]) (rest := []) (own := RL) (A0 := fun q => s.heap.size ≤ q) (H0 := s.heap) hx hb hml hts hown hK hN hiC lk_L_104 cv_X11_testOf ob_C_0 rfl (by decide) (by decide) (Nat.le_of_ble_eq_true rfl) hroom (ct_X11_testOf ((xs (nI i + 1).toNatClampNeg)) ((xs (nI i + 2).toNatClampNeg)) ((xs (nI i + 3).toNatClampNeg)) MC) hf hPC hS hAC hl.1 dL_972 rfl (fun H1 locs1 hPC hz1 hk1 hS => ?_)
  have hPR := wk_keep hPR (fun q h1 h2 => hk1 q h1 (hCR q h2))
  have hPo := wk_keepo hPo (fun h1 => hk1 qo h1 hCo)
  show W p l e room_1 s m #[.ref b] below meth c H1 locs1 _ _ _ (F0 m 975 ls [.int r])
  refine lv_aload_n hx hb dL_975 rfl (lv_at hl 2 rfl) ?_
  refine lv_aload_n hx hb dL_976 rfl (lv_at hl 0 rfl) ?_
  refine lv_iload hx hb dL_977 (lv_at hl 4 rfl) ?_
  refine lv_iconst (v := 1) hx hb dL_979 (by decide) ?_
  refine lv_iadd hx hb dL_980 ?_
  refine va_sld hx hb hX hbl hbA hS h1 dL_981 ?_
  refine lv_aload_n hx hb dL_982 rfl (lv_at hl 0 rfl) ?_
  refine lv_iload hx hb dL_983 (lv_at hl 4 rfl) ?_
  refine lv_iconst (v := 2) hx hb dL_985 (by decide) ?_
  refine lv_iadd hx hb dL_986 ?_
  refine va_sld hx hb hX hbl hbA hS h2 dL_987 ?_
  refine lv_aload_n hx hb dL_988 rfl (lv_at hl 0 rfl) ?_
  refine lv_iload hx hb dL_989 (lv_at hl 4 rfl) ?_
  refine lv_iconst (v := 3) hx hb dL_991 (by decide) ?_
  refine lv_iadd hx hb dL_992 ?_
  refine va_sld hx hb hX hbl hbA hS h3 dL_993 ?_
  refine wk_callV (Z := Y_X12_testOf) (as := [.int ((xs (nI i + 1).toNatClampNeg)), .int ((xs (nI i + 2).toNatClampNeg)), .int ((xs (nI i + 3).toNatClampNeg))]) (rest := [.int r]) (own := RL) (A0 := fun q => s.heap.size ≤ q) (H0 := s.heap) hx hb hml hts hown hK hN hiR lk_L_108 cv_X12_testOf ob_R_0 rfl (by decide) (by decide) (Nat.le_of_ble_eq_true rfl) hroom (ct_X12_testOf ((xs (nI i + 1).toNatClampNeg)) ((xs (nI i + 2).toNatClampNeg)) ((xs (nI i + 3).toNatClampNeg)) MR) hg hPR hS hAR hl.1 dL_994 rfl (fun H2 locs2 hPR hz2 hk2 hS => ?_)
  have hPC := wk_keep hPC (fun q h1 h2 => hk2 q h1 (fun h3 => hCR q h3 h2))
  have hPo := wk_keepo hPo (fun h1 => hk2 qo h1 hRo)
  show W p l e room_1 s m #[.ref b] below meth c H2 locs2 _ _ _ (F0 m 997 ls [.int r, .int r])
  refine lv_icmp_eq (tgt := 1624) hx hb dL_997 (by decide) (fun _ => ?_) (fun h => absurd rfl h)
  exact W.widen (by omega) (by omega) (hnext MC1 MR1 fo H2 locs2 ls ⟨hR1, hPC, hPR, hPo, hS, hl⟩)
set_option maxHeartbeats 4000000 in
theorem law_18 {Rel : mm_M → mm_M → Prop} {p : Program} {l : Launch} {e : Env} {s : State} {m : MethodId} {below : List Frame} {meth : Method} {c : Code} {b L : Nat} {xs : Nat → Int32} {D : va_G} {cA : Nat → ClassId} {adC adR : Nat → Nat} {qo sa1 sa2 i : Nat} (hop : ∀ (a1 : Int32) (a2 : Int32) (a3 : Int32), op_i Rel (f_X11_fact a1 a2 a3) (f_X12_fact a1 a2 a3)) (hL : L ≤ 3584) (hi : i + 6 < L) (C0 : LwC p l s m meth c b L xs D cA adC adR qo sa1 sa2) (hnext : LwA Rel p l e s m below meth c b D cA adC adR qo i (140 + i + 7) (20000 + i + 7) 1624) : LwA Rel p l e s m below meth c b D cA adC adR qo i (140 + i) (20000 + i) 1002 := by
  obtain ⟨hx, hb, hml, hr, hlocks, hown, hts, hK, hN, hX, hbl, hiC, hiR, hCR, hCo, hRo, hAC, hAR, hAo, hxK, hNc, hxZ, hlt⟩ := id C0
  have hbA : ¬ (fun q : Nat => s.heap.size ≤ q) b := Nat.not_le.mpr hbl
  have hroom : 140 + i ≤ room_1.cells ∧ 20000 + i ≤ room_1.slots := ⟨by show 140 + i ≤ 601024; omega, by show 20000 + i ≤ 7293034; omega⟩
  have h1 : vp_in (nI i + 1) L := lw_h (k := 1) rfl (by omega) hi hL
  have h2 : vp_in (nI i + 2) L := lw_h (k := 2) rfl (by omega) hi hL
  have h3 : vp_in (nI i + 3) L := lw_h (k := 3) rfl (by omega) hi hL
  have h4 : vp_in (nI i + 4) L := lw_h (k := 4) rfl (by omega) hi hL
  have h5 : vp_in (nI i + 5) L := lw_h (k := 5) rfl (by omega) hi hL
  have h6 : vp_in (nI i + 6) L := lw_h (k := 6) rfl (by omega) hi hL
  intro MC MR fo H locs ls hI
  obtain ⟨hR, hPC, hPR, hPo, hS, hl⟩ := hI
  refine lv_aload_n hx hb dL_1002 rfl (lv_at hl 1 rfl) ?_
  refine lv_aload_n hx hb dL_1003 rfl (lv_at hl 0 rfl) ?_
  refine lv_iload hx hb dL_1004 (lv_at hl 4 rfl) ?_
  refine lv_iconst (v := 1) hx hb dL_1006 (by decide) ?_
  refine lv_iadd hx hb dL_1007 ?_
  refine va_sld hx hb hX hbl hbA hS h1 dL_1008 ?_
  refine lv_aload_n hx hb dL_1009 rfl (lv_at hl 0 rfl) ?_
  refine lv_iload hx hb dL_1010 (lv_at hl 4 rfl) ?_
  refine lv_iconst (v := 2) hx hb dL_1012 (by decide) ?_
  refine lv_iadd hx hb dL_1013 ?_
  refine va_sld hx hb hX hbl hbA hS h2 dL_1014 ?_
  refine lv_aload_n hx hb dL_1015 rfl (lv_at hl 0 rfl) ?_
  refine lv_iload hx hb dL_1016 (lv_at hl 4 rfl) ?_
  refine lv_iconst (v := 3) hx hb dL_1018 (by decide) ?_
  refine lv_iadd hx hb dL_1019 ?_
  refine va_sld hx hb hX hbl hbA hS h3 dL_1020 ?_
  obtain ⟨r, MC1, MR1, hf, hg, hR1⟩ := hop ((xs (nI i + 1).toNatClampNeg)) ((xs (nI i + 2).toNatClampNeg)) ((xs (nI i + 3).toNatClampNeg)) MC MR hR
  refine wk_callV (Z := Y_X11_fact) (as := [.int ((xs (nI i + 1).toNatClampNeg)), .int ((xs (nI i + 2).toNatClampNeg)), .int ((xs (nI i + 3).toNatClampNeg))]) (rest := []) (own := RL) (A0 := fun q => s.heap.size ≤ q) (H0 := s.heap) hx hb hml hts hown hK hN hiC lk_L_109 cv_X11_fact ob_C_0 rfl (by decide) (by decide) (Nat.le_of_ble_eq_true rfl) hroom (ct_X11_fact ((xs (nI i + 1).toNatClampNeg)) ((xs (nI i + 2).toNatClampNeg)) ((xs (nI i + 3).toNatClampNeg)) MC) hf hPC hS hAC hl.1 dL_1021 rfl (fun H1 locs1 hPC hz1 hk1 hS => ?_)
  have hPR := wk_keep hPR (fun q h1 h2 => hk1 q h1 (hCR q h2))
  have hPo := wk_keepo hPo (fun h1 => hk1 qo h1 hCo)
  show W p l e room_1 s m #[.ref b] below meth c H1 locs1 _ _ _ (F0 m 1024 ls [.int r])
  refine lv_aload_n hx hb dL_1024 rfl (lv_at hl 2 rfl) ?_
  refine lv_aload_n hx hb dL_1025 rfl (lv_at hl 0 rfl) ?_
  refine lv_iload hx hb dL_1026 (lv_at hl 4 rfl) ?_
  refine lv_iconst (v := 1) hx hb dL_1028 (by decide) ?_
  refine lv_iadd hx hb dL_1029 ?_
  refine va_sld hx hb hX hbl hbA hS h1 dL_1030 ?_
  refine lv_aload_n hx hb dL_1031 rfl (lv_at hl 0 rfl) ?_
  refine lv_iload hx hb dL_1032 (lv_at hl 4 rfl) ?_
  refine lv_iconst (v := 2) hx hb dL_1034 (by decide) ?_
  refine lv_iadd hx hb dL_1035 ?_
  refine va_sld hx hb hX hbl hbA hS h2 dL_1036 ?_
  refine lv_aload_n hx hb dL_1037 rfl (lv_at hl 0 rfl) ?_
  refine lv_iload hx hb dL_1038 (lv_at hl 4 rfl) ?_
  refine lv_iconst (v := 3) hx hb dL_1040 (by decide) ?_
  refine lv_iadd hx hb dL_1041 ?_
  refine va_sld hx hb hX hbl hbA hS h3 dL_1042 ?_
  refine wk_callV (Z := Y_X12_fact) (as := [.int ((xs (nI i + 1).toNatClampNeg)), .int ((xs (nI i + 2).toNatClampNeg)), .int ((xs (nI i + 3).toNatClampNeg))]) (rest := [.int r]) (own := RL) (A0 := fun q => s.heap.size ≤ q) (H0 := s.heap) hx hb hml hts hown hK hN hiR lk_L_112 cv_X12_fact ob_R_0 rfl (by decide) (by decide) (Nat.le_of_ble_eq_true rfl) hroom (ct_X12_fact ((xs (nI i + 1).toNatClampNeg)) ((xs (nI i + 2).toNatClampNeg)) ((xs (nI i + 3).toNatClampNeg)) MR) hg hPR hS hAR hl.1 dL_1043 rfl (fun H2 locs2 hPR hz2 hk2 hS => ?_)
  have hPC := wk_keep hPC (fun q h1 h2 => hk2 q h1 (fun h3 => hCR q h3 h2))
  have hPo := wk_keepo hPo (fun h1 => hk2 qo h1 hRo)
  show W p l e room_1 s m #[.ref b] below meth c H2 locs2 _ _ _ (F0 m 1046 ls [.int r, .int r])
  refine lv_icmp_eq (tgt := 1624) hx hb dL_1046 (by decide) (fun _ => ?_) (fun h => absurd rfl h)
  exact W.widen (by omega) (by omega) (hnext MC1 MR1 fo H2 locs2 ls ⟨hR1, hPC, hPR, hPo, hS, hl⟩)
set_option maxHeartbeats 4000000 in
theorem law_19 {Rel : mm_M → mm_M → Prop} {p : Program} {l : Launch} {e : Env} {s : State} {m : MethodId} {below : List Frame} {meth : Method} {c : Code} {b L : Nat} {xs : Nat → Int32} {D : va_G} {cA : Nat → ClassId} {adC adR : Nat → Nat} {qo sa1 sa2 i : Nat} (hop : ∀ (a1 : Int32) (a2 : Int32) (a3 : Int32), op_i Rel (f_X11_step a1 a2 a3) (f_X12_step a1 a2 a3)) (hL : L ≤ 3584) (hi : i + 6 < L) (C0 : LwC p l s m meth c b L xs D cA adC adR qo sa1 sa2) (hnext : LwA Rel p l e s m below meth c b D cA adC adR qo i (140 + i + 7) (20000 + i + 7) 1624) : LwA Rel p l e s m below meth c b D cA adC adR qo i (140 + i) (20000 + i) 1051 := by
  obtain ⟨hx, hb, hml, hr, hlocks, hown, hts, hK, hN, hX, hbl, hiC, hiR, hCR, hCo, hRo, hAC, hAR, hAo, hxK, hNc, hxZ, hlt⟩ := id C0
  have hbA : ¬ (fun q : Nat => s.heap.size ≤ q) b := Nat.not_le.mpr hbl
  have hroom : 140 + i ≤ room_1.cells ∧ 20000 + i ≤ room_1.slots := ⟨by show 140 + i ≤ 601024; omega, by show 20000 + i ≤ 7293034; omega⟩
  have h1 : vp_in (nI i + 1) L := lw_h (k := 1) rfl (by omega) hi hL
  have h2 : vp_in (nI i + 2) L := lw_h (k := 2) rfl (by omega) hi hL
  have h3 : vp_in (nI i + 3) L := lw_h (k := 3) rfl (by omega) hi hL
  have h4 : vp_in (nI i + 4) L := lw_h (k := 4) rfl (by omega) hi hL
  have h5 : vp_in (nI i + 5) L := lw_h (k := 5) rfl (by omega) hi hL
  have h6 : vp_in (nI i + 6) L := lw_h (k := 6) rfl (by omega) hi hL
  intro MC MR fo H locs ls hI
  obtain ⟨hR, hPC, hPR, hPo, hS, hl⟩ := hI
  refine lv_aload_n hx hb dL_1051 rfl (lv_at hl 1 rfl) ?_
  refine lv_aload_n hx hb dL_1052 rfl (lv_at hl 0 rfl) ?_
  refine lv_iload hx hb dL_1053 (lv_at hl 4 rfl) ?_
  refine lv_iconst (v := 1) hx hb dL_1055 (by decide) ?_
  refine lv_iadd hx hb dL_1056 ?_
  refine va_sld hx hb hX hbl hbA hS h1 dL_1057 ?_
  refine lv_aload_n hx hb dL_1058 rfl (lv_at hl 0 rfl) ?_
  refine lv_iload hx hb dL_1059 (lv_at hl 4 rfl) ?_
  refine lv_iconst (v := 2) hx hb dL_1061 (by decide) ?_
  refine lv_iadd hx hb dL_1062 ?_
  refine va_sld hx hb hX hbl hbA hS h2 dL_1063 ?_
  refine lv_aload_n hx hb dL_1064 rfl (lv_at hl 0 rfl) ?_
  refine lv_iload hx hb dL_1065 (lv_at hl 4 rfl) ?_
  refine lv_iconst (v := 3) hx hb dL_1067 (by decide) ?_
  refine lv_iadd hx hb dL_1068 ?_
  refine va_sld hx hb hX hbl hbA hS h3 dL_1069 ?_
  obtain ⟨r, MC1, MR1, hf, hg, hR1⟩ := hop ((xs (nI i + 1).toNatClampNeg)) ((xs (nI i + 2).toNatClampNeg)) ((xs (nI i + 3).toNatClampNeg)) MC MR hR
  refine wk_callV (Z := Y_X11_step) (as := [.int ((xs (nI i + 1).toNatClampNeg)), .int ((xs (nI i + 2).toNatClampNeg)), .int ((xs (nI i + 3).toNatClampNeg))]) (rest := []) (own := RL) (A0 := fun q => s.heap.size ≤ q) (H0 := s.heap) hx hb hml hts hown hK hN hiC lk_L_113 cv_X11_step ob_C_0 rfl (by decide) (by decide) (Nat.le_of_ble_eq_true rfl) hroom (ct_X11_step ((xs (nI i + 1).toNatClampNeg)) ((xs (nI i + 2).toNatClampNeg)) ((xs (nI i + 3).toNatClampNeg)) MC) hf hPC hS hAC hl.1 dL_1070 rfl (fun H1 locs1 hPC hz1 hk1 hS => ?_)
  have hPR := wk_keep hPR (fun q h1 h2 => hk1 q h1 (hCR q h2))
  have hPo := wk_keepo hPo (fun h1 => hk1 qo h1 hCo)
  show W p l e room_1 s m #[.ref b] below meth c H1 locs1 _ _ _ (F0 m 1073 ls [.int r])
  refine lv_aload_n hx hb dL_1073 rfl (lv_at hl 2 rfl) ?_
  refine lv_aload_n hx hb dL_1074 rfl (lv_at hl 0 rfl) ?_
  refine lv_iload hx hb dL_1075 (lv_at hl 4 rfl) ?_
  refine lv_iconst (v := 1) hx hb dL_1077 (by decide) ?_
  refine lv_iadd hx hb dL_1078 ?_
  refine va_sld hx hb hX hbl hbA hS h1 dL_1079 ?_
  refine lv_aload_n hx hb dL_1080 rfl (lv_at hl 0 rfl) ?_
  refine lv_iload hx hb dL_1081 (lv_at hl 4 rfl) ?_
  refine lv_iconst (v := 2) hx hb dL_1083 (by decide) ?_
  refine lv_iadd hx hb dL_1084 ?_
  refine va_sld hx hb hX hbl hbA hS h2 dL_1085 ?_
  refine lv_aload_n hx hb dL_1086 rfl (lv_at hl 0 rfl) ?_
  refine lv_iload hx hb dL_1087 (lv_at hl 4 rfl) ?_
  refine lv_iconst (v := 3) hx hb dL_1089 (by decide) ?_
  refine lv_iadd hx hb dL_1090 ?_
  refine va_sld hx hb hX hbl hbA hS h3 dL_1091 ?_
  refine wk_callV (Z := Y_X12_step) (as := [.int ((xs (nI i + 1).toNatClampNeg)), .int ((xs (nI i + 2).toNatClampNeg)), .int ((xs (nI i + 3).toNatClampNeg))]) (rest := [.int r]) (own := RL) (A0 := fun q => s.heap.size ≤ q) (H0 := s.heap) hx hb hml hts hown hK hN hiR lk_L_116 cv_X12_step ob_R_0 rfl (by decide) (by decide) (Nat.le_of_ble_eq_true rfl) hroom (ct_X12_step ((xs (nI i + 1).toNatClampNeg)) ((xs (nI i + 2).toNatClampNeg)) ((xs (nI i + 3).toNatClampNeg)) MR) hg hPR hS hAR hl.1 dL_1092 rfl (fun H2 locs2 hPR hz2 hk2 hS => ?_)
  have hPC := wk_keep hPC (fun q h1 h2 => hk2 q h1 (fun h3 => hCR q h3 h2))
  have hPo := wk_keepo hPo (fun h1 => hk2 qo h1 hRo)
  show W p l e room_1 s m #[.ref b] below meth c H2 locs2 _ _ _ (F0 m 1095 ls [.int r, .int r])
  refine lv_icmp_eq (tgt := 1624) hx hb dL_1095 (by decide) (fun _ => ?_) (fun h => absurd rfl h)
  exact W.widen (by omega) (by omega) (hnext MC1 MR1 fo H2 locs2 ls ⟨hR1, hPC, hPR, hPo, hS, hl⟩)
set_option maxHeartbeats 4000000 in
theorem law_20 {Rel : mm_M → mm_M → Prop} {p : Program} {l : Launch} {e : Env} {s : State} {m : MethodId} {below : List Frame} {meth : Method} {c : Code} {b L : Nat} {xs : Nat → Int32} {D : va_G} {cA : Nat → ClassId} {adC adR : Nat → Nat} {qo sa1 sa2 i : Nat} (hop : op_i Rel (f_X11_lost) (f_X12_lost)) (hL : L ≤ 3584) (hi : i + 6 < L) (C0 : LwC p l s m meth c b L xs D cA adC adR qo sa1 sa2) (hnext : LwA Rel p l e s m below meth c b D cA adC adR qo i (140 + i + 7) (20000 + i + 7) 1624) : LwA Rel p l e s m below meth c b D cA adC adR qo i (140 + i) (20000 + i) 1100 := by
  obtain ⟨hx, hb, hml, hr, hlocks, hown, hts, hK, hN, hX, hbl, hiC, hiR, hCR, hCo, hRo, hAC, hAR, hAo, hxK, hNc, hxZ, hlt⟩ := id C0
  have hbA : ¬ (fun q : Nat => s.heap.size ≤ q) b := Nat.not_le.mpr hbl
  have hroom : 140 + i ≤ room_1.cells ∧ 20000 + i ≤ room_1.slots := ⟨by show 140 + i ≤ 601024; omega, by show 20000 + i ≤ 7293034; omega⟩
  have h1 : vp_in (nI i + 1) L := lw_h (k := 1) rfl (by omega) hi hL
  have h2 : vp_in (nI i + 2) L := lw_h (k := 2) rfl (by omega) hi hL
  have h3 : vp_in (nI i + 3) L := lw_h (k := 3) rfl (by omega) hi hL
  have h4 : vp_in (nI i + 4) L := lw_h (k := 4) rfl (by omega) hi hL
  have h5 : vp_in (nI i + 5) L := lw_h (k := 5) rfl (by omega) hi hL
  have h6 : vp_in (nI i + 6) L := lw_h (k := 6) rfl (by omega) hi hL
  intro MC MR fo H locs ls hI
  obtain ⟨hR, hPC, hPR, hPo, hS, hl⟩ := hI
  refine lv_aload_n hx hb dL_1100 rfl (lv_at hl 1 rfl) ?_
  obtain ⟨r, MC1, MR1, hf, hg, hR1⟩ := hop MC MR hR
  refine wk_callV (Z := Y_X11_lost) (as := []) (rest := []) (own := RL) (A0 := fun q => s.heap.size ≤ q) (H0 := s.heap) hx hb hml hts hown hK hN hiC lk_L_117 cv_X11_lost ob_C_0 rfl (by decide) (by decide) (Nat.le_of_ble_eq_true rfl) hroom (ct_X11_lost MC) hf hPC hS hAC hl.1 dL_1101 rfl (fun H1 locs1 hPC hz1 hk1 hS => ?_)
  have hPR := wk_keep hPR (fun q h1 h2 => hk1 q h1 (hCR q h2))
  have hPo := wk_keepo hPo (fun h1 => hk1 qo h1 hCo)
  show W p l e room_1 s m #[.ref b] below meth c H1 locs1 _ _ _ (F0 m 1104 ls [.int r])
  refine lv_aload_n hx hb dL_1104 rfl (lv_at hl 2 rfl) ?_
  refine wk_callV (Z := Y_X12_lost) (as := []) (rest := [.int r]) (own := RL) (A0 := fun q => s.heap.size ≤ q) (H0 := s.heap) hx hb hml hts hown hK hN hiR lk_L_120 cv_X12_lost ob_R_0 rfl (by decide) (by decide) (Nat.le_of_ble_eq_true rfl) hroom (ct_X12_lost MR) hg hPR hS hAR hl.1 dL_1105 rfl (fun H2 locs2 hPR hz2 hk2 hS => ?_)
  have hPC := wk_keep hPC (fun q h1 h2 => hk2 q h1 (fun h3 => hCR q h3 h2))
  have hPo := wk_keepo hPo (fun h1 => hk2 qo h1 hRo)
  show W p l e room_1 s m #[.ref b] below meth c H2 locs2 _ _ _ (F0 m 1108 ls [.int r, .int r])
  refine lv_icmp_eq (tgt := 1624) hx hb dL_1108 (by decide) (fun _ => ?_) (fun h => absurd rfl h)
  exact W.widen (by omega) (by omega) (hnext MC1 MR1 fo H2 locs2 ls ⟨hR1, hPC, hPR, hPo, hS, hl⟩)
set_option maxHeartbeats 4000000 in
theorem law_21 {Rel : mm_M → mm_M → Prop} {p : Program} {l : Launch} {e : Env} {s : State} {m : MethodId} {below : List Frame} {meth : Method} {c : Code} {b L : Nat} {xs : Nat → Int32} {D : va_G} {cA : Nat → ClassId} {adC adR : Nat → Nat} {qo sa1 sa2 i : Nat} (hop : ∀ (a1 : Int32), op_i Rel (f_X11_leave a1) (f_X12_leave a1)) (hL : L ≤ 3584) (hi : i + 6 < L) (C0 : LwC p l s m meth c b L xs D cA adC adR qo sa1 sa2) (hnext : LwA Rel p l e s m below meth c b D cA adC adR qo i (140 + i + 7) (20000 + i + 7) 1624) : LwA Rel p l e s m below meth c b D cA adC adR qo i (140 + i) (20000 + i) 1113 := by
  obtain ⟨hx, hb, hml, hr, hlocks, hown, hts, hK, hN, hX, hbl, hiC, hiR, hCR, hCo, hRo, hAC, hAR, hAo, hxK, hNc, hxZ, hlt⟩ := id C0
  have hbA : ¬ (fun q : Nat => s.heap.size ≤ q) b := Nat.not_le.mpr hbl
  have hroom : 140 + i ≤ room_1.cells ∧ 20000 + i ≤ room_1.slots := ⟨by show 140 + i ≤ 601024; omega, by show 20000 + i ≤ 7293034; omega⟩
  have h1 : vp_in (nI i + 1) L := lw_h (k := 1) rfl (by omega) hi hL
  have h2 : vp_in (nI i + 2) L := lw_h (k := 2) rfl (by omega) hi hL
  have h3 : vp_in (nI i + 3) L := lw_h (k := 3) rfl (by omega) hi hL
  have h4 : vp_in (nI i + 4) L := lw_h (k := 4) rfl (by omega) hi hL
  have h5 : vp_in (nI i + 5) L := lw_h (k := 5) rfl (by omega) hi hL
  have h6 : vp_in (nI i + 6) L := lw_h (k := 6) rfl (by omega) hi hL
  intro MC MR fo H locs ls hI
  obtain ⟨hR, hPC, hPR, hPo, hS, hl⟩ := hI
  refine lv_aload_n hx hb dL_1113 rfl (lv_at hl 1 rfl) ?_
  refine lv_aload_n hx hb dL_1114 rfl (lv_at hl 0 rfl) ?_
  refine lv_iload hx hb dL_1115 (lv_at hl 4 rfl) ?_
  refine lv_iconst (v := 1) hx hb dL_1117 (by decide) ?_
  refine lv_iadd hx hb dL_1118 ?_
  refine va_sld hx hb hX hbl hbA hS h1 dL_1119 ?_
  obtain ⟨r, MC1, MR1, hf, hg, hR1⟩ := hop ((xs (nI i + 1).toNatClampNeg)) MC MR hR
  refine wk_callV (Z := Y_X11_leave) (as := [.int ((xs (nI i + 1).toNatClampNeg))]) (rest := []) (own := RL) (A0 := fun q => s.heap.size ≤ q) (H0 := s.heap) hx hb hml hts hown hK hN hiC lk_L_121 cv_X11_leave ob_C_0 rfl (by decide) (by decide) (Nat.le_of_ble_eq_true rfl) hroom (ct_X11_leave ((xs (nI i + 1).toNatClampNeg)) MC) hf hPC hS hAC hl.1 dL_1120 rfl (fun H1 locs1 hPC hz1 hk1 hS => ?_)
  have hPR := wk_keep hPR (fun q h1 h2 => hk1 q h1 (hCR q h2))
  have hPo := wk_keepo hPo (fun h1 => hk1 qo h1 hCo)
  show W p l e room_1 s m #[.ref b] below meth c H1 locs1 _ _ _ (F0 m 1123 ls [.int r])
  refine lv_aload_n hx hb dL_1123 rfl (lv_at hl 2 rfl) ?_
  refine lv_aload_n hx hb dL_1124 rfl (lv_at hl 0 rfl) ?_
  refine lv_iload hx hb dL_1125 (lv_at hl 4 rfl) ?_
  refine lv_iconst (v := 1) hx hb dL_1127 (by decide) ?_
  refine lv_iadd hx hb dL_1128 ?_
  refine va_sld hx hb hX hbl hbA hS h1 dL_1129 ?_
  refine wk_callV (Z := Y_X12_leave) (as := [.int ((xs (nI i + 1).toNatClampNeg))]) (rest := [.int r]) (own := RL) (A0 := fun q => s.heap.size ≤ q) (H0 := s.heap) hx hb hml hts hown hK hN hiR lk_L_124 cv_X12_leave ob_R_0 rfl (by decide) (by decide) (Nat.le_of_ble_eq_true rfl) hroom (ct_X12_leave ((xs (nI i + 1).toNatClampNeg)) MR) hg hPR hS hAR hl.1 dL_1130 rfl (fun H2 locs2 hPR hz2 hk2 hS => ?_)
  have hPC := wk_keep hPC (fun q h1 h2 => hk2 q h1 (fun h3 => hCR q h3 h2))
  have hPo := wk_keepo hPo (fun h1 => hk2 qo h1 hRo)
  show W p l e room_1 s m #[.ref b] below meth c H2 locs2 _ _ _ (F0 m 1133 ls [.int r, .int r])
  refine lv_icmp_eq (tgt := 1624) hx hb dL_1133 (by decide) (fun _ => ?_) (fun h => absurd rfl h)
  exact W.widen (by omega) (by omega) (hnext MC1 MR1 fo H2 locs2 ls ⟨hR1, hPC, hPR, hPo, hS, hl⟩)
set_option maxHeartbeats 4000000 in
theorem law_22 {Rel : mm_M → mm_M → Prop} {p : Program} {l : Launch} {e : Env} {s : State} {m : MethodId} {below : List Frame} {meth : Method} {c : Code} {b L : Nat} {xs : Nat → Int32} {D : va_G} {cA : Nat → ClassId} {adC adR : Nat → Nat} {qo sa1 sa2 i : Nat} (hop : ∀ (a1 : Int32) (a2 : Int32) (a3 : Int32), op_i Rel (f_X11_work a1 a2 a3) (f_X12_work a1 a2 a3)) (hL : L ≤ 3584) (hi : i + 6 < L) (C0 : LwC p l s m meth c b L xs D cA adC adR qo sa1 sa2) (hnext : LwA Rel p l e s m below meth c b D cA adC adR qo i (140 + i + 7) (20000 + i + 7) 1624) : LwA Rel p l e s m below meth c b D cA adC adR qo i (140 + i) (20000 + i) 1138 := by
  obtain ⟨hx, hb, hml, hr, hlocks, hown, hts, hK, hN, hX, hbl, hiC, hiR, hCR, hCo, hRo, hAC, hAR, hAo, hxK, hNc, hxZ, hlt⟩ := id C0
  have hbA : ¬ (fun q : Nat => s.heap.size ≤ q) b := Nat.not_le.mpr hbl
  have hroom : 140 + i ≤ room_1.cells ∧ 20000 + i ≤ room_1.slots := ⟨by show 140 + i ≤ 601024; omega, by show 20000 + i ≤ 7293034; omega⟩
  have h1 : vp_in (nI i + 1) L := lw_h (k := 1) rfl (by omega) hi hL
  have h2 : vp_in (nI i + 2) L := lw_h (k := 2) rfl (by omega) hi hL
  have h3 : vp_in (nI i + 3) L := lw_h (k := 3) rfl (by omega) hi hL
  have h4 : vp_in (nI i + 4) L := lw_h (k := 4) rfl (by omega) hi hL
  have h5 : vp_in (nI i + 5) L := lw_h (k := 5) rfl (by omega) hi hL
  have h6 : vp_in (nI i + 6) L := lw_h (k := 6) rfl (by omega) hi hL
  intro MC MR fo H locs ls hI
  obtain ⟨hR, hPC, hPR, hPo, hS, hl⟩ := hI
  refine lv_aload_n hx hb dL_1138 rfl (lv_at hl 1 rfl) ?_
  refine lv_aload_n hx hb dL_1139 rfl (lv_at hl 0 rfl) ?_
  refine lv_iload hx hb dL_1140 (lv_at hl 4 rfl) ?_
  refine lv_iconst (v := 1) hx hb dL_1142 (by decide) ?_
  refine lv_iadd hx hb dL_1143 ?_
  refine va_sld hx hb hX hbl hbA hS h1 dL_1144 ?_
  refine lv_aload_n hx hb dL_1145 rfl (lv_at hl 0 rfl) ?_
  refine lv_iload hx hb dL_1146 (lv_at hl 4 rfl) ?_
  refine lv_iconst (v := 2) hx hb dL_1148 (by decide) ?_
  refine lv_iadd hx hb dL_1149 ?_
  refine va_sld hx hb hX hbl hbA hS h2 dL_1150 ?_
  refine lv_aload_n hx hb dL_1151 rfl (lv_at hl 0 rfl) ?_
  refine lv_iload hx hb dL_1152 (lv_at hl 4 rfl) ?_
  refine lv_iconst (v := 3) hx hb dL_1154 (by decide) ?_
  refine lv_iadd hx hb dL_1155 ?_
  refine va_sld hx hb hX hbl hbA hS h3 dL_1156 ?_
  obtain ⟨r, MC1, MR1, hf, hg, hR1⟩ := hop ((xs (nI i + 1).toNatClampNeg)) ((xs (nI i + 2).toNatClampNeg)) ((xs (nI i + 3).toNatClampNeg)) MC MR hR
  refine wk_callV (Z := Y_X11_work) (as := [.int ((xs (nI i + 1).toNatClampNeg)), .int ((xs (nI i + 2).toNatClampNeg)), .int ((xs (nI i + 3).toNatClampNeg))]) (rest := []) (own := RL) (A0 := fun q => s.heap.size ≤ q) (H0 := s.heap) hx hb hml hts hown hK hN hiC lk_L_125 cv_X11_work ob_C_0 rfl (by decide) (by decide) (Nat.le_of_ble_eq_true rfl) hroom (ct_X11_work ((xs (nI i + 1).toNatClampNeg)) ((xs (nI i + 2).toNatClampNeg)) ((xs (nI i + 3).toNatClampNeg)) MC) hf hPC hS hAC hl.1 dL_1157 rfl (fun H1 locs1 hPC hz1 hk1 hS => ?_)
  have hPR := wk_keep hPR (fun q h1 h2 => hk1 q h1 (hCR q h2))
  have hPo := wk_keepo hPo (fun h1 => hk1 qo h1 hCo)
  show W p l e room_1 s m #[.ref b] below meth c H1 locs1 _ _ _ (F0 m 1160 ls [.int r])
  refine lv_aload_n hx hb dL_1160 rfl (lv_at hl 2 rfl) ?_
  refine lv_aload_n hx hb dL_1161 rfl (lv_at hl 0 rfl) ?_
  refine lv_iload hx hb dL_1162 (lv_at hl 4 rfl) ?_
  refine lv_iconst (v := 1) hx hb dL_1164 (by decide) ?_
  refine lv_iadd hx hb dL_1165 ?_
  refine va_sld hx hb hX hbl hbA hS h1 dL_1166 ?_
  refine lv_aload_n hx hb dL_1167 rfl (lv_at hl 0 rfl) ?_
  refine lv_iload hx hb dL_1168 (lv_at hl 4 rfl) ?_
  refine lv_iconst (v := 2) hx hb dL_1170 (by decide) ?_
  refine lv_iadd hx hb dL_1171 ?_
  refine va_sld hx hb hX hbl hbA hS h2 dL_1172 ?_
  refine lv_aload_n hx hb dL_1173 rfl (lv_at hl 0 rfl) ?_
  refine lv_iload hx hb dL_1174 (lv_at hl 4 rfl) ?_
  refine lv_iconst (v := 3) hx hb dL_1176 (by decide) ?_
  refine lv_iadd hx hb dL_1177 ?_
  refine va_sld hx hb hX hbl hbA hS h3 dL_1178 ?_
  refine wk_callV (Z := Y_X12_work) (as := [.int ((xs (nI i + 1).toNatClampNeg)), .int ((xs (nI i + 2).toNatClampNeg)), .int ((xs (nI i + 3).toNatClampNeg))]) (rest := [.int r]) (own := RL) (A0 := fun q => s.heap.size ≤ q) (H0 := s.heap) hx hb hml hts hown hK hN hiR lk_L_128 cv_X12_work ob_R_0 rfl (by decide) (by decide) (Nat.le_of_ble_eq_true rfl) hroom (ct_X12_work ((xs (nI i + 1).toNatClampNeg)) ((xs (nI i + 2).toNatClampNeg)) ((xs (nI i + 3).toNatClampNeg)) MR) hg hPR hS hAR hl.1 dL_1179 rfl (fun H2 locs2 hPR hz2 hk2 hS => ?_)
  have hPC := wk_keep hPC (fun q h1 h2 => hk2 q h1 (fun h3 => hCR q h3 h2))
  have hPo := wk_keepo hPo (fun h1 => hk2 qo h1 hRo)
  show W p l e room_1 s m #[.ref b] below meth c H2 locs2 _ _ _ (F0 m 1182 ls [.int r, .int r])
  refine lv_icmp_eq (tgt := 1624) hx hb dL_1182 (by decide) (fun _ => ?_) (fun h => absurd rfl h)
  exact W.widen (by omega) (by omega) (hnext MC1 MR1 fo H2 locs2 ls ⟨hR1, hPC, hPR, hPo, hS, hl⟩)
set_option maxHeartbeats 4000000 in
theorem law_23 {Rel : mm_M → mm_M → Prop} {p : Program} {l : Launch} {e : Env} {s : State} {m : MethodId} {below : List Frame} {meth : Method} {c : Code} {b L : Nat} {xs : Nat → Int32} {D : va_G} {cA : Nat → ClassId} {adC adR : Nat → Nat} {qo sa1 sa2 i : Nat} (hop : ∀ (a1 : Int32) (a2 : Int32) (a3 : Int32) (a4 : Int32), (a3 = 0 ∨ a3 = 1) → op_i Rel (f_X11_workAt a1 a2 a3 a4) (f_X12_workAt a1 a2 a3 a4)) (hL : L ≤ 3584) (hi : i + 6 < L) (C0 : LwC p l s m meth c b L xs D cA adC adR qo sa1 sa2) (hnext : LwA Rel p l e s m below meth c b D cA adC adR qo i (140 + i + 7) (20000 + i + 7) 1624) : LwA Rel p l e s m below meth c b D cA adC adR qo i (140 + i) (20000 + i) 1187 := by
  obtain ⟨hx, hb, hml, hr, hlocks, hown, hts, hK, hN, hX, hbl, hiC, hiR, hCR, hCo, hRo, hAC, hAR, hAo, hxK, hNc, hxZ, hlt⟩ := id C0
  have hbA : ¬ (fun q : Nat => s.heap.size ≤ q) b := Nat.not_le.mpr hbl
  have hroom : 140 + i ≤ room_1.cells ∧ 20000 + i ≤ room_1.slots := ⟨by show 140 + i ≤ 601024; omega, by show 20000 + i ≤ 7293034; omega⟩
  have h1 : vp_in (nI i + 1) L := lw_h (k := 1) rfl (by omega) hi hL
  have h2 : vp_in (nI i + 2) L := lw_h (k := 2) rfl (by omega) hi hL
  have h3 : vp_in (nI i + 3) L := lw_h (k := 3) rfl (by omega) hi hL
  have h4 : vp_in (nI i + 4) L := lw_h (k := 4) rfl (by omega) hi hL
  have h5 : vp_in (nI i + 5) L := lw_h (k := 5) rfl (by omega) hi hL
  have h6 : vp_in (nI i + 6) L := lw_h (k := 6) rfl (by omega) hi hL
  intro MC MR fo H locs ls hI
  obtain ⟨hR, hPC, hPR, hPo, hS, hl⟩ := hI
  by_cases hz3 : xs (nI i + 3).toNatClampNeg = 0
  ·
    refine lv_aload_n hx hb dL_1187 rfl (lv_at hl 1 rfl) ?_
    refine lv_aload_n hx hb dL_1188 rfl (lv_at hl 0 rfl) ?_
    refine lv_iload hx hb dL_1189 (lv_at hl 4 rfl) ?_
    refine lv_iconst (v := 1) hx hb dL_1191 (by decide) ?_
    refine lv_iadd hx hb dL_1192 ?_
    refine va_sld hx hb hX hbl hbA hS h1 dL_1193 ?_
    refine lv_aload_n hx hb dL_1194 rfl (lv_at hl 0 rfl) ?_
    refine lv_iload hx hb dL_1195 (lv_at hl 4 rfl) ?_
    refine lv_iconst (v := 2) hx hb dL_1197 (by decide) ?_
    refine lv_iadd hx hb dL_1198 ?_
    refine va_sld hx hb hX hbl hbA hS h2 dL_1199 ?_
    refine lv_aload_n hx hb dL_1200 rfl (lv_at hl 0 rfl) ?_
    refine lv_iload hx hb dL_1201 (lv_at hl 4 rfl) ?_
    refine lv_iconst (v := 3) hx hb dL_1203 (by decide) ?_
    refine lv_iadd hx hb dL_1204 ?_
    refine va_sld hx hb hX hbl hbA hS h3 dL_1205 ?_
    refine lv_if_eq (tgt := 1213) hx hb dL_1206 (by decide) (fun _ => ?_) (fun h => absurd hz3 h)
    refine lv_iconst (v := 0) hx hb dL_1213 (by decide) ?_
    refine lv_aload_n hx hb dL_1214 rfl (lv_at hl 0 rfl) ?_
    refine lv_iload hx hb dL_1215 (lv_at hl 4 rfl) ?_
    refine lv_iconst (v := 4) hx hb dL_1217 (by decide) ?_
    refine lv_iadd hx hb dL_1218 ?_
    refine va_sld hx hb hX hbl hbA hS h4 dL_1219 ?_
    obtain ⟨r, MC1, MR1, hf, hg, hR1⟩ := hop ((xs (nI i + 1).toNatClampNeg)) ((xs (nI i + 2).toNatClampNeg)) ((0 : Int32)) ((xs (nI i + 4).toNatClampNeg)) (Or.inl rfl) MC MR hR
    refine wk_callV (Z := Y_X11_workAt) (as := [.int ((xs (nI i + 1).toNatClampNeg)), .int ((xs (nI i + 2).toNatClampNeg)), .int (0), .int ((xs (nI i + 4).toNatClampNeg))]) (rest := []) (own := RL) (A0 := fun q => s.heap.size ≤ q) (H0 := s.heap) hx hb hml hts hown hK hN hiC lk_L_129 cv_X11_workAt ob_C_0 rfl (by decide) (by decide) (Nat.le_of_ble_eq_true rfl) hroom (ct_X11_workAt ((xs (nI i + 1).toNatClampNeg)) ((xs (nI i + 2).toNatClampNeg)) ((0 : Int32)) ((xs (nI i + 4).toNatClampNeg)) MC) hf hPC hS hAC hl.1 dL_1220 rfl (fun H1 locs1 hPC hz1 hk1 hS => ?_)
    have hPR := wk_keep hPR (fun q h1 h2 => hk1 q h1 (hCR q h2))
    have hPo := wk_keepo hPo (fun h1 => hk1 qo h1 hCo)
    show W p l e room_1 s m #[.ref b] below meth c H1 locs1 _ _ _ (F0 m 1223 ls [.int r])
    refine lv_aload_n hx hb dL_1223 rfl (lv_at hl 2 rfl) ?_
    refine lv_aload_n hx hb dL_1224 rfl (lv_at hl 0 rfl) ?_
    refine lv_iload hx hb dL_1225 (lv_at hl 4 rfl) ?_
    refine lv_iconst (v := 1) hx hb dL_1227 (by decide) ?_
    refine lv_iadd hx hb dL_1228 ?_
    refine va_sld hx hb hX hbl hbA hS h1 dL_1229 ?_
    refine lv_aload_n hx hb dL_1230 rfl (lv_at hl 0 rfl) ?_
    refine lv_iload hx hb dL_1231 (lv_at hl 4 rfl) ?_
    refine lv_iconst (v := 2) hx hb dL_1233 (by decide) ?_
    refine lv_iadd hx hb dL_1234 ?_
    refine va_sld hx hb hX hbl hbA hS h2 dL_1235 ?_
    refine lv_aload_n hx hb dL_1236 rfl (lv_at hl 0 rfl) ?_
    refine lv_iload hx hb dL_1237 (lv_at hl 4 rfl) ?_
    refine lv_iconst (v := 3) hx hb dL_1239 (by decide) ?_
    refine lv_iadd hx hb dL_1240 ?_
    refine va_sld hx hb hX hbl hbA hS h3 dL_1241 ?_
    refine lv_if_eq (tgt := 1249) hx hb dL_1242 (by decide) (fun _ => ?_) (fun h => absurd hz3 h)
    refine lv_iconst (v := 0) hx hb dL_1249 (by decide) ?_
    refine lv_aload_n hx hb dL_1250 rfl (lv_at hl 0 rfl) ?_
    refine lv_iload hx hb dL_1251 (lv_at hl 4 rfl) ?_
    refine lv_iconst (v := 4) hx hb dL_1253 (by decide) ?_
    refine lv_iadd hx hb dL_1254 ?_
    refine va_sld hx hb hX hbl hbA hS h4 dL_1255 ?_
    refine wk_callV (Z := Y_X12_workAt) (as := [.int ((xs (nI i + 1).toNatClampNeg)), .int ((xs (nI i + 2).toNatClampNeg)), .int (0), .int ((xs (nI i + 4).toNatClampNeg))]) (rest := [.int r]) (own := RL) (A0 := fun q => s.heap.size ≤ q) (H0 := s.heap) hx hb hml hts hown hK hN hiR lk_L_133 cv_X12_workAt ob_R_0 rfl (by decide) (by decide) (Nat.le_of_ble_eq_true rfl) hroom (ct_X12_workAt ((xs (nI i + 1).toNatClampNeg)) ((xs (nI i + 2).toNatClampNeg)) ((0 : Int32)) ((xs (nI i + 4).toNatClampNeg)) MR) hg hPR hS hAR hl.1 dL_1256 rfl (fun H2 locs2 hPR hz2 hk2 hS => ?_)
    have hPC := wk_keep hPC (fun q h1 h2 => hk2 q h1 (fun h3 => hCR q h3 h2))
    have hPo := wk_keepo hPo (fun h1 => hk2 qo h1 hRo)
    show W p l e room_1 s m #[.ref b] below meth c H2 locs2 _ _ _ (F0 m 1259 ls [.int r, .int r])
    refine lv_icmp_eq (tgt := 1624) hx hb dL_1259 (by decide) (fun _ => ?_) (fun h => absurd rfl h)
    exact W.widen (by omega) (by omega) (hnext MC1 MR1 fo H2 locs2 ls ⟨hR1, hPC, hPR, hPo, hS, hl⟩)
  ·
    refine lv_aload_n hx hb dL_1187 rfl (lv_at hl 1 rfl) ?_
    refine lv_aload_n hx hb dL_1188 rfl (lv_at hl 0 rfl) ?_
    refine lv_iload hx hb dL_1189 (lv_at hl 4 rfl) ?_
    refine lv_iconst (v := 1) hx hb dL_1191 (by decide) ?_
    refine lv_iadd hx hb dL_1192 ?_
    refine va_sld hx hb hX hbl hbA hS h1 dL_1193 ?_
    refine lv_aload_n hx hb dL_1194 rfl (lv_at hl 0 rfl) ?_
    refine lv_iload hx hb dL_1195 (lv_at hl 4 rfl) ?_
    refine lv_iconst (v := 2) hx hb dL_1197 (by decide) ?_
    refine lv_iadd hx hb dL_1198 ?_
    refine va_sld hx hb hX hbl hbA hS h2 dL_1199 ?_
    refine lv_aload_n hx hb dL_1200 rfl (lv_at hl 0 rfl) ?_
    refine lv_iload hx hb dL_1201 (lv_at hl 4 rfl) ?_
    refine lv_iconst (v := 3) hx hb dL_1203 (by decide) ?_
    refine lv_iadd hx hb dL_1204 ?_
    refine va_sld hx hb hX hbl hbA hS h3 dL_1205 ?_
    refine lv_if_eq (tgt := 1213) hx hb dL_1206 (by decide) (fun h => absurd h hz3) (fun _ => ?_)
    refine lv_iconst (v := 1) hx hb dL_1209 (by decide) ?_
    refine lv_goto (tgt := 1214) hx hb dL_1210 (by decide) ?_
    refine lv_aload_n hx hb dL_1214 rfl (lv_at hl 0 rfl) ?_
    refine lv_iload hx hb dL_1215 (lv_at hl 4 rfl) ?_
    refine lv_iconst (v := 4) hx hb dL_1217 (by decide) ?_
    refine lv_iadd hx hb dL_1218 ?_
    refine va_sld hx hb hX hbl hbA hS h4 dL_1219 ?_
    obtain ⟨r, MC1, MR1, hf, hg, hR1⟩ := hop ((xs (nI i + 1).toNatClampNeg)) ((xs (nI i + 2).toNatClampNeg)) ((1 : Int32)) ((xs (nI i + 4).toNatClampNeg)) (Or.inr rfl) MC MR hR
    refine wk_callV (Z := Y_X11_workAt) (as := [.int ((xs (nI i + 1).toNatClampNeg)), .int ((xs (nI i + 2).toNatClampNeg)), .int (1), .int ((xs (nI i + 4).toNatClampNeg))]) (rest := []) (own := RL) (A0 := fun q => s.heap.size ≤ q) (H0 := s.heap) hx hb hml hts hown hK hN hiC lk_L_129 cv_X11_workAt ob_C_0 rfl (by decide) (by decide) (Nat.le_of_ble_eq_true rfl) hroom (ct_X11_workAt ((xs (nI i + 1).toNatClampNeg)) ((xs (nI i + 2).toNatClampNeg)) ((1 : Int32)) ((xs (nI i + 4).toNatClampNeg)) MC) hf hPC hS hAC hl.1 dL_1220 rfl (fun H1 locs1 hPC hz1 hk1 hS => ?_)
    have hPR := wk_keep hPR (fun q h1 h2 => hk1 q h1 (hCR q h2))
    have hPo := wk_keepo hPo (fun h1 => hk1 qo h1 hCo)
    show W p l e room_1 s m #[.ref b] below meth c H1 locs1 _ _ _ (F0 m 1223 ls [.int r])
    refine lv_aload_n hx hb dL_1223 rfl (lv_at hl 2 rfl) ?_
    refine lv_aload_n hx hb dL_1224 rfl (lv_at hl 0 rfl) ?_
    refine lv_iload hx hb dL_1225 (lv_at hl 4 rfl) ?_
    refine lv_iconst (v := 1) hx hb dL_1227 (by decide) ?_
    refine lv_iadd hx hb dL_1228 ?_
    refine va_sld hx hb hX hbl hbA hS h1 dL_1229 ?_
    refine lv_aload_n hx hb dL_1230 rfl (lv_at hl 0 rfl) ?_
    refine lv_iload hx hb dL_1231 (lv_at hl 4 rfl) ?_
    refine lv_iconst (v := 2) hx hb dL_1233 (by decide) ?_
    refine lv_iadd hx hb dL_1234 ?_
    refine va_sld hx hb hX hbl hbA hS h2 dL_1235 ?_
    refine lv_aload_n hx hb dL_1236 rfl (lv_at hl 0 rfl) ?_
    refine lv_iload hx hb dL_1237 (lv_at hl 4 rfl) ?_
    refine lv_iconst (v := 3) hx hb dL_1239 (by decide) ?_
    refine lv_iadd hx hb dL_1240 ?_
    refine va_sld hx hb hX hbl hbA hS h3 dL_1241 ?_
    refine lv_if_eq (tgt := 1249) hx hb dL_1242 (by decide) (fun h => absurd h hz3) (fun _ => ?_)
    refine lv_iconst (v := 1) hx hb dL_1245 (by decide) ?_
    refine lv_goto (tgt := 1250) hx hb dL_1246 (by decide) ?_
    refine lv_aload_n hx hb dL_1250 rfl (lv_at hl 0 rfl) ?_
    refine lv_iload hx hb dL_1251 (lv_at hl 4 rfl) ?_
    refine lv_iconst (v := 4) hx hb dL_1253 (by decide) ?_
    refine lv_iadd hx hb dL_1254 ?_
    refine va_sld hx hb hX hbl hbA hS h4 dL_1255 ?_
    refine wk_callV (Z := Y_X12_workAt) (as := [.int ((xs (nI i + 1).toNatClampNeg)), .int ((xs (nI i + 2).toNatClampNeg)), .int (1), .int ((xs (nI i + 4).toNatClampNeg))]) (rest := [.int r]) (own := RL) (A0 := fun q => s.heap.size ≤ q) (H0 := s.heap) hx hb hml hts hown hK hN hiR lk_L_133 cv_X12_workAt ob_R_0 rfl (by decide) (by decide) (Nat.le_of_ble_eq_true rfl) hroom (ct_X12_workAt ((xs (nI i + 1).toNatClampNeg)) ((xs (nI i + 2).toNatClampNeg)) ((1 : Int32)) ((xs (nI i + 4).toNatClampNeg)) MR) hg hPR hS hAR hl.1 dL_1256 rfl (fun H2 locs2 hPR hz2 hk2 hS => ?_)
    have hPC := wk_keep hPC (fun q h1 h2 => hk2 q h1 (fun h3 => hCR q h3 h2))
    have hPo := wk_keepo hPo (fun h1 => hk2 qo h1 hRo)
    show W p l e room_1 s m #[.ref b] below meth c H2 locs2 _ _ _ (F0 m 1259 ls [.int r, .int r])
    refine lv_icmp_eq (tgt := 1624) hx hb dL_1259 (by decide) (fun _ => ?_) (fun h => absurd rfl h)
    exact W.widen (by omega) (by omega) (hnext MC1 MR1 fo H2 locs2 ls ⟨hR1, hPC, hPR, hPo, hS, hl⟩)
set_option maxHeartbeats 4000000 in
theorem law_24 {Rel : mm_M → mm_M → Prop} {p : Program} {l : Launch} {e : Env} {s : State} {m : MethodId} {below : List Frame} {meth : Method} {c : Code} {b L : Nat} {xs : Nat → Int32} {D : va_G} {cA : Nat → ClassId} {adC adR : Nat → Nat} {qo sa1 sa2 i : Nat} (hop : ∀ (a1 : Int32), op_i Rel (f_X11_letters a1) (f_X12_letters a1)) (hL : L ≤ 3584) (hi : i + 6 < L) (C0 : LwC p l s m meth c b L xs D cA adC adR qo sa1 sa2) (hnext : LwA Rel p l e s m below meth c b D cA adC adR qo i (140 + i + 7) (20000 + i + 7) 1624) : LwA Rel p l e s m below meth c b D cA adC adR qo i (140 + i) (20000 + i) 1264 := by
  obtain ⟨hx, hb, hml, hr, hlocks, hown, hts, hK, hN, hX, hbl, hiC, hiR, hCR, hCo, hRo, hAC, hAR, hAo, hxK, hNc, hxZ, hlt⟩ := id C0
  have hbA : ¬ (fun q : Nat => s.heap.size ≤ q) b := Nat.not_le.mpr hbl
  have hroom : 140 + i ≤ room_1.cells ∧ 20000 + i ≤ room_1.slots := ⟨by show 140 + i ≤ 601024; omega, by show 20000 + i ≤ 7293034; omega⟩
  have h1 : vp_in (nI i + 1) L := lw_h (k := 1) rfl (by omega) hi hL
  have h2 : vp_in (nI i + 2) L := lw_h (k := 2) rfl (by omega) hi hL
  have h3 : vp_in (nI i + 3) L := lw_h (k := 3) rfl (by omega) hi hL
  have h4 : vp_in (nI i + 4) L := lw_h (k := 4) rfl (by omega) hi hL
  have h5 : vp_in (nI i + 5) L := lw_h (k := 5) rfl (by omega) hi hL
  have h6 : vp_in (nI i + 6) L := lw_h (k := 6) rfl (by omega) hi hL
  intro MC MR fo H locs ls hI
  obtain ⟨hR, hPC, hPR, hPo, hS, hl⟩ := hI
  refine lv_aload_n hx hb dL_1264 rfl (lv_at hl 1 rfl) ?_
  refine lv_aload_n hx hb dL_1265 rfl (lv_at hl 0 rfl) ?_
  refine lv_iload hx hb dL_1266 (lv_at hl 4 rfl) ?_
  refine lv_iconst (v := 1) hx hb dL_1268 (by decide) ?_
  refine lv_iadd hx hb dL_1269 ?_
  refine va_sld hx hb hX hbl hbA hS h1 dL_1270 ?_
  obtain ⟨r, MC1, MR1, hf, hg, hR1⟩ := hop ((xs (nI i + 1).toNatClampNeg)) MC MR hR
  refine wk_callV (Z := Y_X11_letters) (as := [.int ((xs (nI i + 1).toNatClampNeg))]) (rest := []) (own := RL) (A0 := fun q => s.heap.size ≤ q) (H0 := s.heap) hx hb hml hts hown hK hN hiC lk_L_134 cv_X11_letters ob_C_0 rfl (by decide) (by decide) (Nat.le_of_ble_eq_true rfl) hroom (ct_X11_letters ((xs (nI i + 1).toNatClampNeg)) MC) hf hPC hS hAC hl.1 dL_1271 rfl (fun H1 locs1 hPC hz1 hk1 hS => ?_)
  have hPR := wk_keep hPR (fun q h1 h2 => hk1 q h1 (hCR q h2))
  have hPo := wk_keepo hPo (fun h1 => hk1 qo h1 hCo)
  show W p l e room_1 s m #[.ref b] below meth c H1 locs1 _ _ _ (F0 m 1274 ls [.int r])
  refine lv_aload_n hx hb dL_1274 rfl (lv_at hl 2 rfl) ?_
  refine lv_aload_n hx hb dL_1275 rfl (lv_at hl 0 rfl) ?_
  refine lv_iload hx hb dL_1276 (lv_at hl 4 rfl) ?_
  refine lv_iconst (v := 1) hx hb dL_1278 (by decide) ?_
  refine lv_iadd hx hb dL_1279 ?_
  refine va_sld hx hb hX hbl hbA hS h1 dL_1280 ?_
  refine wk_callV (Z := Y_X12_letters) (as := [.int ((xs (nI i + 1).toNatClampNeg))]) (rest := [.int r]) (own := RL) (A0 := fun q => s.heap.size ≤ q) (H0 := s.heap) hx hb hml hts hown hK hN hiR lk_L_137 cv_X12_letters ob_R_0 rfl (by decide) (by decide) (Nat.le_of_ble_eq_true rfl) hroom (ct_X12_letters ((xs (nI i + 1).toNatClampNeg)) MR) hg hPR hS hAR hl.1 dL_1281 rfl (fun H2 locs2 hPR hz2 hk2 hS => ?_)
  have hPC := wk_keep hPC (fun q h1 h2 => hk2 q h1 (fun h3 => hCR q h3 h2))
  have hPo := wk_keepo hPo (fun h1 => hk2 qo h1 hRo)
  show W p l e room_1 s m #[.ref b] below meth c H2 locs2 _ _ _ (F0 m 1284 ls [.int r, .int r])
  refine lv_icmp_eq (tgt := 1624) hx hb dL_1284 (by decide) (fun _ => ?_) (fun h => absurd rfl h)
  exact W.widen (by omega) (by omega) (hnext MC1 MR1 fo H2 locs2 ls ⟨hR1, hPC, hPR, hPo, hS, hl⟩)
set_option maxHeartbeats 4000000 in
theorem law_25 {Rel : mm_M → mm_M → Prop} {p : Program} {l : Launch} {e : Env} {s : State} {m : MethodId} {below : List Frame} {meth : Method} {c : Code} {b L : Nat} {xs : Nat → Int32} {D : va_G} {cA : Nat → ClassId} {adC adR : Nat → Nat} {qo sa1 sa2 i : Nat} (hop : ∀ (a1 : Int32), op_i Rel (f_X11_letter a1) (f_X12_letter a1)) (hL : L ≤ 3584) (hi : i + 6 < L) (C0 : LwC p l s m meth c b L xs D cA adC adR qo sa1 sa2) (hnext : LwA Rel p l e s m below meth c b D cA adC adR qo i (140 + i + 7) (20000 + i + 7) 1624) : LwA Rel p l e s m below meth c b D cA adC adR qo i (140 + i) (20000 + i) 1289 := by
  obtain ⟨hx, hb, hml, hr, hlocks, hown, hts, hK, hN, hX, hbl, hiC, hiR, hCR, hCo, hRo, hAC, hAR, hAo, hxK, hNc, hxZ, hlt⟩ := id C0
  have hbA : ¬ (fun q : Nat => s.heap.size ≤ q) b := Nat.not_le.mpr hbl
  have hroom : 140 + i ≤ room_1.cells ∧ 20000 + i ≤ room_1.slots := ⟨by show 140 + i ≤ 601024; omega, by show 20000 + i ≤ 7293034; omega⟩
  have h1 : vp_in (nI i + 1) L := lw_h (k := 1) rfl (by omega) hi hL
  have h2 : vp_in (nI i + 2) L := lw_h (k := 2) rfl (by omega) hi hL
  have h3 : vp_in (nI i + 3) L := lw_h (k := 3) rfl (by omega) hi hL
  have h4 : vp_in (nI i + 4) L := lw_h (k := 4) rfl (by omega) hi hL
  have h5 : vp_in (nI i + 5) L := lw_h (k := 5) rfl (by omega) hi hL
  have h6 : vp_in (nI i + 6) L := lw_h (k := 6) rfl (by omega) hi hL
  intro MC MR fo H locs ls hI
  obtain ⟨hR, hPC, hPR, hPo, hS, hl⟩ := hI
  refine lv_aload_n hx hb dL_1289 rfl (lv_at hl 1 rfl) ?_
  refine lv_aload_n hx hb dL_1290 rfl (lv_at hl 0 rfl) ?_
  refine lv_iload hx hb dL_1291 (lv_at hl 4 rfl) ?_
  refine lv_iconst (v := 1) hx hb dL_1293 (by decide) ?_
  refine lv_iadd hx hb dL_1294 ?_
  refine va_sld hx hb hX hbl hbA hS h1 dL_1295 ?_
  obtain ⟨r, MC1, MR1, hf, hg, hR1⟩ := hop ((xs (nI i + 1).toNatClampNeg)) MC MR hR
  refine wk_callV (Z := Y_X11_letter) (as := [.int ((xs (nI i + 1).toNatClampNeg))]) (rest := []) (own := RL) (A0 := fun q => s.heap.size ≤ q) (H0 := s.heap) hx hb hml hts hown hK hN hiC lk_L_138 cv_X11_letter ob_C_0 rfl (by decide) (by decide) (Nat.le_of_ble_eq_true rfl) hroom (ct_X11_letter ((xs (nI i + 1).toNatClampNeg)) MC) hf hPC hS hAC hl.1 dL_1296 rfl (fun H1 locs1 hPC hz1 hk1 hS => ?_)
  have hPR := wk_keep hPR (fun q h1 h2 => hk1 q h1 (hCR q h2))
  have hPo := wk_keepo hPo (fun h1 => hk1 qo h1 hCo)
  show W p l e room_1 s m #[.ref b] below meth c H1 locs1 _ _ _ (F0 m 1299 ls [.int r])
  refine lv_aload_n hx hb dL_1299 rfl (lv_at hl 2 rfl) ?_
  refine lv_aload_n hx hb dL_1300 rfl (lv_at hl 0 rfl) ?_
  refine lv_iload hx hb dL_1301 (lv_at hl 4 rfl) ?_
  refine lv_iconst (v := 1) hx hb dL_1303 (by decide) ?_
  refine lv_iadd hx hb dL_1304 ?_
  refine va_sld hx hb hX hbl hbA hS h1 dL_1305 ?_
  refine wk_callV (Z := Y_X12_letter) (as := [.int ((xs (nI i + 1).toNatClampNeg))]) (rest := [.int r]) (own := RL) (A0 := fun q => s.heap.size ≤ q) (H0 := s.heap) hx hb hml hts hown hK hN hiR lk_L_141 cv_X12_letter ob_R_0 rfl (by decide) (by decide) (Nat.le_of_ble_eq_true rfl) hroom (ct_X12_letter ((xs (nI i + 1).toNatClampNeg)) MR) hg hPR hS hAR hl.1 dL_1306 rfl (fun H2 locs2 hPR hz2 hk2 hS => ?_)
  have hPC := wk_keep hPC (fun q h1 h2 => hk2 q h1 (fun h3 => hCR q h3 h2))
  have hPo := wk_keepo hPo (fun h1 => hk2 qo h1 hRo)
  show W p l e room_1 s m #[.ref b] below meth c H2 locs2 _ _ _ (F0 m 1309 ls [.int r, .int r])
  refine lv_icmp_eq (tgt := 1624) hx hb dL_1309 (by decide) (fun _ => ?_) (fun h => absurd rfl h)
  exact W.widen (by omega) (by omega) (hnext MC1 MR1 fo H2 locs2 ls ⟨hR1, hPC, hPR, hPo, hS, hl⟩)
set_option maxHeartbeats 4000000 in
theorem law_26 {Rel : mm_M → mm_M → Prop} {p : Program} {l : Launch} {e : Env} {s : State} {m : MethodId} {below : List Frame} {meth : Method} {c : Code} {b L : Nat} {xs : Nat → Int32} {D : va_G} {cA : Nat → ClassId} {adC adR : Nat → Nat} {qo sa1 sa2 i : Nat} (hop : ∀ (a1 : Int32) (a2 : Int32), op_l Rel (f_X11_helped a1 a2) (f_X12_helped a1 a2)) (hL : L ≤ 3584) (hi : i + 6 < L) (C0 : LwC p l s m meth c b L xs D cA adC adR qo sa1 sa2) (hnext : LwA Rel p l e s m below meth c b D cA adC adR qo i (140 + i + 7) (20000 + i + 7) 1624) : LwA Rel p l e s m below meth c b D cA adC adR qo i (140 + i) (20000 + i) 1314 := by
  obtain ⟨hx, hb, hml, hr, hlocks, hown, hts, hK, hN, hX, hbl, hiC, hiR, hCR, hCo, hRo, hAC, hAR, hAo, hxK, hNc, hxZ, hlt⟩ := id C0
  have hbA : ¬ (fun q : Nat => s.heap.size ≤ q) b := Nat.not_le.mpr hbl
  have hroom : 140 + i ≤ room_1.cells ∧ 20000 + i ≤ room_1.slots := ⟨by show 140 + i ≤ 601024; omega, by show 20000 + i ≤ 7293034; omega⟩
  have h1 : vp_in (nI i + 1) L := lw_h (k := 1) rfl (by omega) hi hL
  have h2 : vp_in (nI i + 2) L := lw_h (k := 2) rfl (by omega) hi hL
  have h3 : vp_in (nI i + 3) L := lw_h (k := 3) rfl (by omega) hi hL
  have h4 : vp_in (nI i + 4) L := lw_h (k := 4) rfl (by omega) hi hL
  have h5 : vp_in (nI i + 5) L := lw_h (k := 5) rfl (by omega) hi hL
  have h6 : vp_in (nI i + 6) L := lw_h (k := 6) rfl (by omega) hi hL
  intro MC MR fo H locs ls hI
  obtain ⟨hR, hPC, hPR, hPo, hS, hl⟩ := hI
  refine lv_aload_n hx hb dL_1314 rfl (lv_at hl 1 rfl) ?_
  refine lv_aload_n hx hb dL_1315 rfl (lv_at hl 0 rfl) ?_
  refine lv_iload hx hb dL_1316 (lv_at hl 4 rfl) ?_
  refine lv_iconst (v := 1) hx hb dL_1318 (by decide) ?_
  refine lv_iadd hx hb dL_1319 ?_
  refine va_sld hx hb hX hbl hbA hS h1 dL_1320 ?_
  refine lv_aload_n hx hb dL_1321 rfl (lv_at hl 0 rfl) ?_
  refine lv_iload hx hb dL_1322 (lv_at hl 4 rfl) ?_
  refine lv_iconst (v := 2) hx hb dL_1324 (by decide) ?_
  refine lv_iadd hx hb dL_1325 ?_
  refine va_sld hx hb hX hbl hbA hS h2 dL_1326 ?_
  obtain ⟨r, MC1, MR1, hf, hg, hR1⟩ := hop ((xs (nI i + 1).toNatClampNeg)) ((xs (nI i + 2).toNatClampNeg)) MC MR hR
  refine wk_callV (Z := Y_X11_helped) (as := [.int ((xs (nI i + 1).toNatClampNeg)), .int ((xs (nI i + 2).toNatClampNeg))]) (rest := []) (own := RL) (A0 := fun q => s.heap.size ≤ q) (H0 := s.heap) hx hb hml hts hown hK hN hiC lk_L_142 cv_X11_helped ob_C_0 rfl (by decide) (by decide) (Nat.le_of_ble_eq_true rfl) hroom (ct_X11_helped ((xs (nI i + 1).toNatClampNeg)) ((xs (nI i + 2).toNatClampNeg)) MC) hf hPC hS hAC hl.1 dL_1327 rfl (fun H1 locs1 hPC hz1 hk1 hS => ?_)
  have hPR := wk_keep hPR (fun q h1 h2 => hk1 q h1 (hCR q h2))
  have hPo := wk_keepo hPo (fun h1 => hk1 qo h1 hCo)
  show W p l e room_1 s m #[.ref b] below meth c H1 locs1 _ _ _ (F0 m 1330 ls [.long r])
  refine lv_aload_n hx hb dL_1330 rfl (lv_at hl 2 rfl) ?_
  refine lv_aload_n hx hb dL_1331 rfl (lv_at hl 0 rfl) ?_
  refine lv_iload hx hb dL_1332 (lv_at hl 4 rfl) ?_
  refine lv_iconst (v := 1) hx hb dL_1334 (by decide) ?_
  refine lv_iadd hx hb dL_1335 ?_
  refine va_sld hx hb hX hbl hbA hS h1 dL_1336 ?_
  refine lv_aload_n hx hb dL_1337 rfl (lv_at hl 0 rfl) ?_
  refine lv_iload hx hb dL_1338 (lv_at hl 4 rfl) ?_
  refine lv_iconst (v := 2) hx hb dL_1340 (by decide) ?_
  refine lv_iadd hx hb dL_1341 ?_
  refine va_sld hx hb hX hbl hbA hS h2 dL_1342 ?_
  refine wk_callV (Z := Y_X12_helped) (as := [.int ((xs (nI i + 1).toNatClampNeg)), .int ((xs (nI i + 2).toNatClampNeg))]) (rest := [.long r]) (own := RL) (A0 := fun q => s.heap.size ≤ q) (H0 := s.heap) hx hb hml hts hown hK hN hiR lk_L_146 cv_X12_helped ob_R_0 rfl (by decide) (by decide) (Nat.le_of_ble_eq_true rfl) hroom (ct_X12_helped ((xs (nI i + 1).toNatClampNeg)) ((xs (nI i + 2).toNatClampNeg)) MR) hg hPR hS hAR hl.1 dL_1343 rfl (fun H2 locs2 hPR hz2 hk2 hS => ?_)
  have hPC := wk_keep hPC (fun q h1 h2 => hk2 q h1 (fun h3 => hCR q h3 h2))
  have hPo := wk_keepo hPo (fun h1 => hk2 qo h1 hRo)
  show W p l e room_1 s m #[.ref b] below meth c H2 locs2 _ _ _ (F0 m 1346 ls [.long r, .long r])
  refine W.lcmp hx hb dL_1346 ?_
  refine lv_if_eq (tgt := 1624) hx hb dL_1347 (by decide) (fun _ => ?_) (fun h => absurd (lg_cmp_self r) h)
  exact W.widen (by omega) (by omega) (hnext MC1 MR1 fo H2 locs2 ls ⟨hR1, hPC, hPR, hPo, hS, hl⟩)
set_option maxHeartbeats 4000000 in
theorem law_27 {Rel : mm_M → mm_M → Prop} {p : Program} {l : Launch} {e : Env} {s : State} {m : MethodId} {below : List Frame} {meth : Method} {c : Code} {b L : Nat} {xs : Nat → Int32} {D : va_G} {cA : Nat → ClassId} {adC adR : Nat → Nat} {qo sa1 sa2 i : Nat} (hop : ∀ (a1 : Int32) (a2 : Int32) (a3 : Int32) (a4 : Int32), op_l Rel (f_X11_wards a1 a2 a3 a4) (f_X12_wards a1 a2 a3 a4)) (hL : L ≤ 3584) (hi : i + 6 < L) (C0 : LwC p l s m meth c b L xs D cA adC adR qo sa1 sa2) (hnext : LwA Rel p l e s m below meth c b D cA adC adR qo i (140 + i + 7) (20000 + i + 7) 1624) : LwA Rel p l e s m below meth c b D cA adC adR qo i (140 + i) (20000 + i) 1352 := by
  obtain ⟨hx, hb, hml, hr, hlocks, hown, hts, hK, hN, hX, hbl, hiC, hiR, hCR, hCo, hRo, hAC, hAR, hAo, hxK, hNc, hxZ, hlt⟩ := id C0
  have hbA : ¬ (fun q : Nat => s.heap.size ≤ q) b := Nat.not_le.mpr hbl
  have hroom : 140 + i ≤ room_1.cells ∧ 20000 + i ≤ room_1.slots := ⟨by show 140 + i ≤ 601024; omega, by show 20000 + i ≤ 7293034; omega⟩
  have h1 : vp_in (nI i + 1) L := lw_h (k := 1) rfl (by omega) hi hL
  have h2 : vp_in (nI i + 2) L := lw_h (k := 2) rfl (by omega) hi hL
  have h3 : vp_in (nI i + 3) L := lw_h (k := 3) rfl (by omega) hi hL
  have h4 : vp_in (nI i + 4) L := lw_h (k := 4) rfl (by omega) hi hL
  have h5 : vp_in (nI i + 5) L := lw_h (k := 5) rfl (by omega) hi hL
  have h6 : vp_in (nI i + 6) L := lw_h (k := 6) rfl (by omega) hi hL
  intro MC MR fo H locs ls hI
  obtain ⟨hR, hPC, hPR, hPo, hS, hl⟩ := hI
  refine lv_aload_n hx hb dL_1352 rfl (lv_at hl 1 rfl) ?_
  refine lv_aload_n hx hb dL_1353 rfl (lv_at hl 0 rfl) ?_
  refine lv_iload hx hb dL_1354 (lv_at hl 4 rfl) ?_
  refine lv_iconst (v := 1) hx hb dL_1356 (by decide) ?_
  refine lv_iadd hx hb dL_1357 ?_
  refine va_sld hx hb hX hbl hbA hS h1 dL_1358 ?_
  refine lv_aload_n hx hb dL_1359 rfl (lv_at hl 0 rfl) ?_
  refine lv_iload hx hb dL_1360 (lv_at hl 4 rfl) ?_
  refine lv_iconst (v := 2) hx hb dL_1362 (by decide) ?_
  refine lv_iadd hx hb dL_1363 ?_
  refine va_sld hx hb hX hbl hbA hS h2 dL_1364 ?_
  refine lv_aload_n hx hb dL_1365 rfl (lv_at hl 0 rfl) ?_
  refine lv_iload hx hb dL_1366 (lv_at hl 4 rfl) ?_
  refine lv_iconst (v := 3) hx hb dL_1368 (by decide) ?_
  refine lv_iadd hx hb dL_1369 ?_
  refine va_sld hx hb hX hbl hbA hS h3 dL_1370 ?_
  refine lv_aload_n hx hb dL_1371 rfl (lv_at hl 0 rfl) ?_
  refine lv_iload hx hb dL_1372 (lv_at hl 4 rfl) ?_
  refine lv_iconst (v := 4) hx hb dL_1374 (by decide) ?_
  refine lv_iadd hx hb dL_1375 ?_
  refine va_sld hx hb hX hbl hbA hS h4 dL_1376 ?_
  obtain ⟨r, MC1, MR1, hf, hg, hR1⟩ := hop ((xs (nI i + 1).toNatClampNeg)) ((xs (nI i + 2).toNatClampNeg)) ((xs (nI i + 3).toNatClampNeg)) ((xs (nI i + 4).toNatClampNeg)) MC MR hR
  refine wk_callV (Z := Y_X11_wards) (as := [.int ((xs (nI i + 1).toNatClampNeg)), .int ((xs (nI i + 2).toNatClampNeg)), .int ((xs (nI i + 3).toNatClampNeg)), .int ((xs (nI i + 4).toNatClampNeg))]) (rest := []) (own := RL) (A0 := fun q => s.heap.size ≤ q) (H0 := s.heap) hx hb hml hts hown hK hN hiC lk_L_147 cv_X11_wards ob_C_0 rfl (by decide) (by decide) (Nat.le_of_ble_eq_true rfl) hroom (ct_X11_wards ((xs (nI i + 1).toNatClampNeg)) ((xs (nI i + 2).toNatClampNeg)) ((xs (nI i + 3).toNatClampNeg)) ((xs (nI i + 4).toNatClampNeg)) MC) hf hPC hS hAC hl.1 dL_1377 rfl (fun H1 locs1 hPC hz1 hk1 hS => ?_)
  have hPR := wk_keep hPR (fun q h1 h2 => hk1 q h1 (hCR q h2))
  have hPo := wk_keepo hPo (fun h1 => hk1 qo h1 hCo)
  show W p l e room_1 s m #[.ref b] below meth c H1 locs1 _ _ _ (F0 m 1380 ls [.long r])
  refine lv_aload_n hx hb dL_1380 rfl (lv_at hl 2 rfl) ?_
  refine lv_aload_n hx hb dL_1381 rfl (lv_at hl 0 rfl) ?_
  refine lv_iload hx hb dL_1382 (lv_at hl 4 rfl) ?_
  refine lv_iconst (v := 1) hx hb dL_1384 (by decide) ?_
  refine lv_iadd hx hb dL_1385 ?_
  refine va_sld hx hb hX hbl hbA hS h1 dL_1386 ?_
  refine lv_aload_n hx hb dL_1387 rfl (lv_at hl 0 rfl) ?_
  refine lv_iload hx hb dL_1388 (lv_at hl 4 rfl) ?_
  refine lv_iconst (v := 2) hx hb dL_1390 (by decide) ?_
  refine lv_iadd hx hb dL_1391 ?_
  refine va_sld hx hb hX hbl hbA hS h2 dL_1392 ?_
  refine lv_aload_n hx hb dL_1393 rfl (lv_at hl 0 rfl) ?_
  refine lv_iload hx hb dL_1394 (lv_at hl 4 rfl) ?_
  refine lv_iconst (v := 3) hx hb dL_1396 (by decide) ?_
  refine lv_iadd hx hb dL_1397 ?_
  refine va_sld hx hb hX hbl hbA hS h3 dL_1398 ?_
  refine lv_aload_n hx hb dL_1399 rfl (lv_at hl 0 rfl) ?_
  refine lv_iload hx hb dL_1400 (lv_at hl 4 rfl) ?_
  refine lv_iconst (v := 4) hx hb dL_1402 (by decide) ?_
  refine lv_iadd hx hb dL_1403 ?_
  refine va_sld hx hb hX hbl hbA hS h4 dL_1404 ?_
  refine wk_callV (Z := Y_X12_wards) (as := [.int ((xs (nI i + 1).toNatClampNeg)), .int ((xs (nI i + 2).toNatClampNeg)), .int ((xs (nI i + 3).toNatClampNeg)), .int ((xs (nI i + 4).toNatClampNeg))]) (rest := [.long r]) (own := RL) (A0 := fun q => s.heap.size ≤ q) (H0 := s.heap) hx hb hml hts hown hK hN hiR lk_L_151 cv_X12_wards ob_R_0 rfl (by decide) (by decide) (Nat.le_of_ble_eq_true rfl) hroom (ct_X12_wards ((xs (nI i + 1).toNatClampNeg)) ((xs (nI i + 2).toNatClampNeg)) ((xs (nI i + 3).toNatClampNeg)) ((xs (nI i + 4).toNatClampNeg)) MR) hg hPR hS hAR hl.1 dL_1405 rfl (fun H2 locs2 hPR hz2 hk2 hS => ?_)
  have hPC := wk_keep hPC (fun q h1 h2 => hk2 q h1 (fun h3 => hCR q h3 h2))
  have hPo := wk_keepo hPo (fun h1 => hk2 qo h1 hRo)
  show W p l e room_1 s m #[.ref b] below meth c H2 locs2 _ _ _ (F0 m 1408 ls [.long r, .long r])
  refine W.lcmp hx hb dL_1408 ?_
  refine lv_if_eq (tgt := 1624) hx hb dL_1409 (by decide) (fun _ => ?_) (fun h => absurd (lg_cmp_self r) h)
  exact W.widen (by omega) (by omega) (hnext MC1 MR1 fo H2 locs2 ls ⟨hR1, hPC, hPR, hPo, hS, hl⟩)
set_option maxHeartbeats 4000000 in
theorem law_28 {Rel : mm_M → mm_M → Prop} {p : Program} {l : Launch} {e : Env} {s : State} {m : MethodId} {below : List Frame} {meth : Method} {c : Code} {b L : Nat} {xs : Nat → Int32} {D : va_G} {cA : Nat → ClassId} {adC adR : Nat → Nat} {qo sa1 sa2 i : Nat} (hop : ∀ (a1 : Int32) (a2 : Int32) (a3 : Int32) (a4 : Int32) (a5 : Int32), op_i Rel (f_X11_clerk a1 a2 a3 a4 a5) (f_X12_clerk a1 a2 a3 a4 a5)) (hL : L ≤ 3584) (hi : i + 6 < L) (C0 : LwC p l s m meth c b L xs D cA adC adR qo sa1 sa2) (hnext : LwA Rel p l e s m below meth c b D cA adC adR qo i (140 + i + 7) (20000 + i + 7) 1624) : LwA Rel p l e s m below meth c b D cA adC adR qo i (140 + i) (20000 + i) 1414 := by
  obtain ⟨hx, hb, hml, hr, hlocks, hown, hts, hK, hN, hX, hbl, hiC, hiR, hCR, hCo, hRo, hAC, hAR, hAo, hxK, hNc, hxZ, hlt⟩ := id C0
  have hbA : ¬ (fun q : Nat => s.heap.size ≤ q) b := Nat.not_le.mpr hbl
  have hroom : 140 + i ≤ room_1.cells ∧ 20000 + i ≤ room_1.slots := ⟨by show 140 + i ≤ 601024; omega, by show 20000 + i ≤ 7293034; omega⟩
  have h1 : vp_in (nI i + 1) L := lw_h (k := 1) rfl (by omega) hi hL
  have h2 : vp_in (nI i + 2) L := lw_h (k := 2) rfl (by omega) hi hL
  have h3 : vp_in (nI i + 3) L := lw_h (k := 3) rfl (by omega) hi hL
  have h4 : vp_in (nI i + 4) L := lw_h (k := 4) rfl (by omega) hi hL
  have h5 : vp_in (nI i + 5) L := lw_h (k := 5) rfl (by omega) hi hL
  have h6 : vp_in (nI i + 6) L := lw_h (k := 6) rfl (by omega) hi hL
  intro MC MR fo H locs ls hI
  obtain ⟨hR, hPC, hPR, hPo, hS, hl⟩ := hI
  refine lv_aload_n hx hb dL_1414 rfl (lv_at hl 1 rfl) ?_
  refine lv_aload_n hx hb dL_1415 rfl (lv_at hl 0 rfl) ?_
  refine lv_iload hx hb dL_1416 (lv_at hl 4 rfl) ?_
  refine lv_iconst (v := 1) hx hb dL_1418 (by decide) ?_
  refine lv_iadd hx hb dL_1419 ?_
  refine va_sld hx hb hX hbl hbA hS h1 dL_1420 ?_
  refine lv_aload_n hx hb dL_1421 rfl (lv_at hl 0 rfl) ?_
  refine lv_iload hx hb dL_1422 (lv_at hl 4 rfl) ?_
  refine lv_iconst (v := 2) hx hb dL_1424 (by decide) ?_
  refine lv_iadd hx hb dL_1425 ?_
  refine va_sld hx hb hX hbl hbA hS h2 dL_1426 ?_
  refine lv_aload_n hx hb dL_1427 rfl (lv_at hl 0 rfl) ?_
  refine lv_iload hx hb dL_1428 (lv_at hl 4 rfl) ?_
  refine lv_iconst (v := 3) hx hb dL_1430 (by decide) ?_
  refine lv_iadd hx hb dL_1431 ?_
  refine va_sld hx hb hX hbl hbA hS h3 dL_1432 ?_
  refine lv_aload_n hx hb dL_1433 rfl (lv_at hl 0 rfl) ?_
  refine lv_iload hx hb dL_1434 (lv_at hl 4 rfl) ?_
  refine lv_iconst (v := 4) hx hb dL_1436 (by decide) ?_
  refine lv_iadd hx hb dL_1437 ?_
  refine va_sld hx hb hX hbl hbA hS h4 dL_1438 ?_
  refine lv_aload_n hx hb dL_1439 rfl (lv_at hl 0 rfl) ?_
  refine lv_iload hx hb dL_1440 (lv_at hl 4 rfl) ?_
  refine lv_iconst (v := 5) hx hb dL_1442 (by decide) ?_
  refine lv_iadd hx hb dL_1443 ?_
  refine va_sld hx hb hX hbl hbA hS h5 dL_1444 ?_
  obtain ⟨r, MC1, MR1, hf, hg, hR1⟩ := hop ((xs (nI i + 1).toNatClampNeg)) ((xs (nI i + 2).toNatClampNeg)) ((xs (nI i + 3).toNatClampNeg)) ((xs (nI i + 4).toNatClampNeg)) ((xs (nI i + 5).toNatClampNeg)) MC MR hR
  refine wk_callV (Z := Y_X11_clerk) (as := [.int ((xs (nI i + 1).toNatClampNeg)), .int ((xs (nI i + 2).toNatClampNeg)), .int ((xs (nI i + 3).toNatClampNeg)), .int ((xs (nI i + 4).toNatClampNeg)), .int ((xs (nI i + 5).toNatClampNeg))]) (rest := []) (own := RL) (A0 := fun q => s.heap.size ≤ q) (H0 := s.heap) hx hb hml hts hown hK hN hiC lk_L_152 cv_X11_clerk ob_C_0 rfl (by decide) (by decide) (Nat.le_of_ble_eq_true rfl) hroom (ct_X11_clerk ((xs (nI i + 1).toNatClampNeg)) ((xs (nI i + 2).toNatClampNeg)) ((xs (nI i + 3).toNatClampNeg)) ((xs (nI i + 4).toNatClampNeg)) ((xs (nI i + 5).toNatClampNeg)) MC) hf hPC hS hAC hl.1 dL_1445 rfl (fun H1 locs1 hPC hz1 hk1 hS => ?_)
  have hPR := wk_keep hPR (fun q h1 h2 => hk1 q h1 (hCR q h2))
  have hPo := wk_keepo hPo (fun h1 => hk1 qo h1 hCo)
  show W p l e room_1 s m #[.ref b] below meth c H1 locs1 _ _ _ (F0 m 1448 ls [.int r])
  refine lv_aload_n hx hb dL_1448 rfl (lv_at hl 2 rfl) ?_
  refine lv_aload_n hx hb dL_1449 rfl (lv_at hl 0 rfl) ?_
  refine lv_iload hx hb dL_1450 (lv_at hl 4 rfl) ?_
  refine lv_iconst (v := 1) hx hb dL_1452 (by decide) ?_
  refine lv_iadd hx hb dL_1453 ?_
  refine va_sld hx hb hX hbl hbA hS h1 dL_1454 ?_
  refine lv_aload_n hx hb dL_1455 rfl (lv_at hl 0 rfl) ?_
  refine lv_iload hx hb dL_1456 (lv_at hl 4 rfl) ?_
  refine lv_iconst (v := 2) hx hb dL_1458 (by decide) ?_
  refine lv_iadd hx hb dL_1459 ?_
  refine va_sld hx hb hX hbl hbA hS h2 dL_1460 ?_
  refine lv_aload_n hx hb dL_1461 rfl (lv_at hl 0 rfl) ?_
  refine lv_iload hx hb dL_1462 (lv_at hl 4 rfl) ?_
  refine lv_iconst (v := 3) hx hb dL_1464 (by decide) ?_
  refine lv_iadd hx hb dL_1465 ?_
  refine va_sld hx hb hX hbl hbA hS h3 dL_1466 ?_
  refine lv_aload_n hx hb dL_1467 rfl (lv_at hl 0 rfl) ?_
  refine lv_iload hx hb dL_1468 (lv_at hl 4 rfl) ?_
  refine lv_iconst (v := 4) hx hb dL_1470 (by decide) ?_
  refine lv_iadd hx hb dL_1471 ?_
  refine va_sld hx hb hX hbl hbA hS h4 dL_1472 ?_
  refine lv_aload_n hx hb dL_1473 rfl (lv_at hl 0 rfl) ?_
  refine lv_iload hx hb dL_1474 (lv_at hl 4 rfl) ?_
  refine lv_iconst (v := 5) hx hb dL_1476 (by decide) ?_
  refine lv_iadd hx hb dL_1477 ?_
  refine va_sld hx hb hX hbl hbA hS h5 dL_1478 ?_
  refine wk_callV (Z := Y_X12_clerk) (as := [.int ((xs (nI i + 1).toNatClampNeg)), .int ((xs (nI i + 2).toNatClampNeg)), .int ((xs (nI i + 3).toNatClampNeg)), .int ((xs (nI i + 4).toNatClampNeg)), .int ((xs (nI i + 5).toNatClampNeg))]) (rest := [.int r]) (own := RL) (A0 := fun q => s.heap.size ≤ q) (H0 := s.heap) hx hb hml hts hown hK hN hiR lk_L_156 cv_X12_clerk ob_R_0 rfl (by decide) (by decide) (Nat.le_of_ble_eq_true rfl) hroom (ct_X12_clerk ((xs (nI i + 1).toNatClampNeg)) ((xs (nI i + 2).toNatClampNeg)) ((xs (nI i + 3).toNatClampNeg)) ((xs (nI i + 4).toNatClampNeg)) ((xs (nI i + 5).toNatClampNeg)) MR) hg hPR hS hAR hl.1 dL_1479 rfl (fun H2 locs2 hPR hz2 hk2 hS => ?_)
  have hPC := wk_keep hPC (fun q h1 h2 => hk2 q h1 (fun h3 => hCR q h3 h2))
  have hPo := wk_keepo hPo (fun h1 => hk2 qo h1 hRo)
  show W p l e room_1 s m #[.ref b] below meth c H2 locs2 _ _ _ (F0 m 1482 ls [.int r, .int r])
  refine lv_icmp_eq (tgt := 1624) hx hb dL_1482 (by decide) (fun _ => ?_) (fun h => absurd rfl h)
  exact W.widen (by omega) (by omega) (hnext MC1 MR1 fo H2 locs2 ls ⟨hR1, hPC, hPR, hPo, hS, hl⟩)
set_option maxHeartbeats 4000000 in
theorem law_29 {Rel : mm_M → mm_M → Prop} {p : Program} {l : Launch} {e : Env} {s : State} {m : MethodId} {below : List Frame} {meth : Method} {c : Code} {b L : Nat} {xs : Nat → Int32} {D : va_G} {cA : Nat → ClassId} {adC adR : Nat → Nat} {qo sa1 sa2 i : Nat} (hop : ∀ (a1 : Int32) (a2 : Int32), op_i Rel (f_X11_tally a1 a2) (f_X12_tally a1 a2)) (hL : L ≤ 3584) (hi : i + 6 < L) (C0 : LwC p l s m meth c b L xs D cA adC adR qo sa1 sa2) (hnext : LwA Rel p l e s m below meth c b D cA adC adR qo i (140 + i + 7) (20000 + i + 7) 1624) : LwA Rel p l e s m below meth c b D cA adC adR qo i (140 + i) (20000 + i) 1487 := by
  obtain ⟨hx, hb, hml, hr, hlocks, hown, hts, hK, hN, hX, hbl, hiC, hiR, hCR, hCo, hRo, hAC, hAR, hAo, hxK, hNc, hxZ, hlt⟩ := id C0
  have hbA : ¬ (fun q : Nat => s.heap.size ≤ q) b := Nat.not_le.mpr hbl
  have hroom : 140 + i ≤ room_1.cells ∧ 20000 + i ≤ room_1.slots := ⟨by show 140 + i ≤ 601024; omega, by show 20000 + i ≤ 7293034; omega⟩
  have h1 : vp_in (nI i + 1) L := lw_h (k := 1) rfl (by omega) hi hL
  have h2 : vp_in (nI i + 2) L := lw_h (k := 2) rfl (by omega) hi hL
  have h3 : vp_in (nI i + 3) L := lw_h (k := 3) rfl (by omega) hi hL
  have h4 : vp_in (nI i + 4) L := lw_h (k := 4) rfl (by omega) hi hL
  have h5 : vp_in (nI i + 5) L := lw_h (k := 5) rfl (by omega) hi hL
  have h6 : vp_in (nI i + 6) L := lw_h (k := 6) rfl (by omega) hi hL
  intro MC MR fo H locs ls hI
  obtain ⟨hR, hPC, hPR, hPo, hS, hl⟩ := hI
  refine lv_aload_n hx hb dL_1487 rfl (lv_at hl 1 rfl) ?_
  refine lv_aload_n hx hb dL_1488 rfl (lv_at hl 0 rfl) ?_
  refine lv_iload hx hb dL_1489 (lv_at hl 4 rfl) ?_
  refine lv_iconst (v := 1) hx hb dL_1491 (by decide) ?_
  refine lv_iadd hx hb dL_1492 ?_
  refine va_sld hx hb hX hbl hbA hS h1 dL_1493 ?_
  refine lv_aload_n hx hb dL_1494 rfl (lv_at hl 0 rfl) ?_
  refine lv_iload hx hb dL_1495 (lv_at hl 4 rfl) ?_
  refine lv_iconst (v := 2) hx hb dL_1497 (by decide) ?_
  refine lv_iadd hx hb dL_1498 ?_
  refine va_sld hx hb hX hbl hbA hS h2 dL_1499 ?_
  obtain ⟨r, MC1, MR1, hf, hg, hR1⟩ := hop ((xs (nI i + 1).toNatClampNeg)) ((xs (nI i + 2).toNatClampNeg)) MC MR hR
  refine wk_callV (Z := Y_X11_tally) (as := [.int ((xs (nI i + 1).toNatClampNeg)), .int ((xs (nI i + 2).toNatClampNeg))]) (rest := []) (own := RL) (A0 := fun q => s.heap.size ≤ q) (H0 := s.heap) hx hb hml hts hown hK hN hiC lk_L_157 cv_X11_tally ob_C_0 rfl (by decide) (by decide) (Nat.le_of_ble_eq_true rfl) hroom (ct_X11_tally ((xs (nI i + 1).toNatClampNeg)) ((xs (nI i + 2).toNatClampNeg)) MC) hf hPC hS hAC hl.1 dL_1500 rfl (fun H1 locs1 hPC hz1 hk1 hS => ?_)
  have hPR := wk_keep hPR (fun q h1 h2 => hk1 q h1 (hCR q h2))
  have hPo := wk_keepo hPo (fun h1 => hk1 qo h1 hCo)
  show W p l e room_1 s m #[.ref b] below meth c H1 locs1 _ _ _ (F0 m 1503 ls [.int r])
  refine lv_aload_n hx hb dL_1503 rfl (lv_at hl 2 rfl) ?_
  refine lv_aload_n hx hb dL_1504 rfl (lv_at hl 0 rfl) ?_
  refine lv_iload hx hb dL_1505 (lv_at hl 4 rfl) ?_
  refine lv_iconst (v := 1) hx hb dL_1507 (by decide) ?_
  refine lv_iadd hx hb dL_1508 ?_
  refine va_sld hx hb hX hbl hbA hS h1 dL_1509 ?_
  refine lv_aload_n hx hb dL_1510 rfl (lv_at hl 0 rfl) ?_
  refine lv_iload hx hb dL_1511 (lv_at hl 4 rfl) ?_
  refine lv_iconst (v := 2) hx hb dL_1513 (by decide) ?_
  refine lv_iadd hx hb dL_1514 ?_
  refine va_sld hx hb hX hbl hbA hS h2 dL_1515 ?_
  refine wk_callV (Z := Y_X12_tally) (as := [.int ((xs (nI i + 1).toNatClampNeg)), .int ((xs (nI i + 2).toNatClampNeg))]) (rest := [.int r]) (own := RL) (A0 := fun q => s.heap.size ≤ q) (H0 := s.heap) hx hb hml hts hown hK hN hiR lk_L_160 cv_X12_tally ob_R_0 rfl (by decide) (by decide) (Nat.le_of_ble_eq_true rfl) hroom (ct_X12_tally ((xs (nI i + 1).toNatClampNeg)) ((xs (nI i + 2).toNatClampNeg)) MR) hg hPR hS hAR hl.1 dL_1516 rfl (fun H2 locs2 hPR hz2 hk2 hS => ?_)
  have hPC := wk_keep hPC (fun q h1 h2 => hk2 q h1 (fun h3 => hCR q h3 h2))
  have hPo := wk_keepo hPo (fun h1 => hk2 qo h1 hRo)
  show W p l e room_1 s m #[.ref b] below meth c H2 locs2 _ _ _ (F0 m 1519 ls [.int r, .int r])
  refine lv_icmp_eq (tgt := 1624) hx hb dL_1519 (by decide) (fun _ => ?_) (fun h => absurd rfl h)
  exact W.widen (by omega) (by omega) (hnext MC1 MR1 fo H2 locs2 ls ⟨hR1, hPC, hPR, hPo, hS, hl⟩)
set_option maxHeartbeats 4000000 in
theorem law_30 {Rel : mm_M → mm_M → Prop} {p : Program} {l : Launch} {e : Env} {s : State} {m : MethodId} {below : List Frame} {meth : Method} {c : Code} {b L : Nat} {xs : Nat → Int32} {D : va_G} {cA : Nat → ClassId} {adC adR : Nat → Nat} {qo sa1 sa2 i : Nat} (hop : op_i Rel (f_X11_worst) (f_X12_worst)) (hL : L ≤ 3584) (hi : i + 6 < L) (C0 : LwC p l s m meth c b L xs D cA adC adR qo sa1 sa2) (hnext : LwA Rel p l e s m below meth c b D cA adC adR qo i (140 + i + 7) (20000 + i + 7) 1624) : LwA Rel p l e s m below meth c b D cA adC adR qo i (140 + i) (20000 + i) 1524 := by
  obtain ⟨hx, hb, hml, hr, hlocks, hown, hts, hK, hN, hX, hbl, hiC, hiR, hCR, hCo, hRo, hAC, hAR, hAo, hxK, hNc, hxZ, hlt⟩ := id C0
  have hbA : ¬ (fun q : Nat => s.heap.size ≤ q) b := Nat.not_le.mpr hbl
  have hroom : 140 + i ≤ room_1.cells ∧ 20000 + i ≤ room_1.slots := ⟨by show 140 + i ≤ 601024; omega, by show 20000 + i ≤ 7293034; omega⟩
  have h1 : vp_in (nI i + 1) L := lw_h (k := 1) rfl (by omega) hi hL
  have h2 : vp_in (nI i + 2) L := lw_h (k := 2) rfl (by omega) hi hL
  have h3 : vp_in (nI i + 3) L := lw_h (k := 3) rfl (by omega) hi hL
  have h4 : vp_in (nI i + 4) L := lw_h (k := 4) rfl (by omega) hi hL
  have h5 : vp_in (nI i + 5) L := lw_h (k := 5) rfl (by omega) hi hL
  have h6 : vp_in (nI i + 6) L := lw_h (k := 6) rfl (by omega) hi hL
  intro MC MR fo H locs ls hI
  obtain ⟨hR, hPC, hPR, hPo, hS, hl⟩ := hI
  refine lv_aload_n hx hb dL_1524 rfl (lv_at hl 1 rfl) ?_
  obtain ⟨r, MC1, MR1, hf, hg, hR1⟩ := hop MC MR hR
  refine wk_callV (Z := Y_X11_worst) (as := []) (rest := []) (own := RL) (A0 := fun q => s.heap.size ≤ q) (H0 := s.heap) hx hb hml hts hown hK hN hiC lk_L_161 cv_X11_worst ob_C_0 rfl (by decide) (by decide) (Nat.le_of_ble_eq_true rfl) hroom (ct_X11_worst MC) hf hPC hS hAC hl.1 dL_1525 rfl (fun H1 locs1 hPC hz1 hk1 hS => ?_)
  have hPR := wk_keep hPR (fun q h1 h2 => hk1 q h1 (hCR q h2))
  have hPo := wk_keepo hPo (fun h1 => hk1 qo h1 hCo)
  show W p l e room_1 s m #[.ref b] below meth c H1 locs1 _ _ _ (F0 m 1528 ls [.int r])
  refine lv_aload_n hx hb dL_1528 rfl (lv_at hl 2 rfl) ?_
  refine wk_callV (Z := Y_X12_worst) (as := []) (rest := [.int r]) (own := RL) (A0 := fun q => s.heap.size ≤ q) (H0 := s.heap) hx hb hml hts hown hK hN hiR lk_L_164 cv_X12_worst ob_R_0 rfl (by decide) (by decide) (Nat.le_of_ble_eq_true rfl) hroom (ct_X12_worst MR) hg hPR hS hAR hl.1 dL_1529 rfl (fun H2 locs2 hPR hz2 hk2 hS => ?_)
  have hPC := wk_keep hPC (fun q h1 h2 => hk2 q h1 (fun h3 => hCR q h3 h2))
  have hPo := wk_keepo hPo (fun h1 => hk2 qo h1 hRo)
  show W p l e room_1 s m #[.ref b] below meth c H2 locs2 _ _ _ (F0 m 1532 ls [.int r, .int r])
  refine lv_icmp_eq (tgt := 1624) hx hb dL_1532 (by decide) (fun _ => ?_) (fun h => absurd rfl h)
  exact W.widen (by omega) (by omega) (hnext MC1 MR1 fo H2 locs2 ls ⟨hR1, hPC, hPR, hPo, hS, hl⟩)
set_option maxHeartbeats 4000000 in
theorem law_31 {Rel : mm_M → mm_M → Prop} {p : Program} {l : Launch} {e : Env} {s : State} {m : MethodId} {below : List Frame} {meth : Method} {c : Code} {b L : Nat} {xs : Nat → Int32} {D : va_G} {cA : Nat → ClassId} {adC adR : Nat → Nat} {qo sa1 sa2 i : Nat} (hop : ∀ (a1 : Int32) (a2 : Int32), op_i Rel (f_X11_cost a1 a2) (f_X12_cost a1 a2)) (hL : L ≤ 3584) (hi : i + 6 < L) (C0 : LwC p l s m meth c b L xs D cA adC adR qo sa1 sa2) (hnext : LwA Rel p l e s m below meth c b D cA adC adR qo i (140 + i + 7) (20000 + i + 7) 1624) : LwA Rel p l e s m below meth c b D cA adC adR qo i (140 + i) (20000 + i) 1537 := by
  obtain ⟨hx, hb, hml, hr, hlocks, hown, hts, hK, hN, hX, hbl, hiC, hiR, hCR, hCo, hRo, hAC, hAR, hAo, hxK, hNc, hxZ, hlt⟩ := id C0
  have hbA : ¬ (fun q : Nat => s.heap.size ≤ q) b := Nat.not_le.mpr hbl
  have hroom : 140 + i ≤ room_1.cells ∧ 20000 + i ≤ room_1.slots := ⟨by show 140 + i ≤ 601024; omega, by show 20000 + i ≤ 7293034; omega⟩
  have h1 : vp_in (nI i + 1) L := lw_h (k := 1) rfl (by omega) hi hL
  have h2 : vp_in (nI i + 2) L := lw_h (k := 2) rfl (by omega) hi hL
  have h3 : vp_in (nI i + 3) L := lw_h (k := 3) rfl (by omega) hi hL
  have h4 : vp_in (nI i + 4) L := lw_h (k := 4) rfl (by omega) hi hL
  have h5 : vp_in (nI i + 5) L := lw_h (k := 5) rfl (by omega) hi hL
  have h6 : vp_in (nI i + 6) L := lw_h (k := 6) rfl (by omega) hi hL
  intro MC MR fo H locs ls hI
  obtain ⟨hR, hPC, hPR, hPo, hS, hl⟩ := hI
  refine lv_aload_n hx hb dL_1537 rfl (lv_at hl 1 rfl) ?_
  refine lv_aload_n hx hb dL_1538 rfl (lv_at hl 0 rfl) ?_
  refine lv_iload hx hb dL_1539 (lv_at hl 4 rfl) ?_
  refine lv_iconst (v := 1) hx hb dL_1541 (by decide) ?_
  refine lv_iadd hx hb dL_1542 ?_
  refine va_sld hx hb hX hbl hbA hS h1 dL_1543 ?_
  refine lv_aload_n hx hb dL_1544 rfl (lv_at hl 0 rfl) ?_
  refine lv_iload hx hb dL_1545 (lv_at hl 4 rfl) ?_
  refine lv_iconst (v := 2) hx hb dL_1547 (by decide) ?_
  refine lv_iadd hx hb dL_1548 ?_
  refine va_sld hx hb hX hbl hbA hS h2 dL_1549 ?_
  obtain ⟨r, MC1, MR1, hf, hg, hR1⟩ := hop ((xs (nI i + 1).toNatClampNeg)) ((xs (nI i + 2).toNatClampNeg)) MC MR hR
  refine wk_callV (Z := Y_X11_cost) (as := [.int ((xs (nI i + 1).toNatClampNeg)), .int ((xs (nI i + 2).toNatClampNeg))]) (rest := []) (own := RL) (A0 := fun q => s.heap.size ≤ q) (H0 := s.heap) hx hb hml hts hown hK hN hiC lk_L_165 cv_X11_cost ob_C_0 rfl (by decide) (by decide) (Nat.le_of_ble_eq_true rfl) hroom (ct_X11_cost ((xs (nI i + 1).toNatClampNeg)) ((xs (nI i + 2).toNatClampNeg)) MC) hf hPC hS hAC hl.1 dL_1550 rfl (fun H1 locs1 hPC hz1 hk1 hS => ?_)
  have hPR := wk_keep hPR (fun q h1 h2 => hk1 q h1 (hCR q h2))
  have hPo := wk_keepo hPo (fun h1 => hk1 qo h1 hCo)
  show W p l e room_1 s m #[.ref b] below meth c H1 locs1 _ _ _ (F0 m 1553 ls [.int r])
  refine lv_aload_n hx hb dL_1553 rfl (lv_at hl 2 rfl) ?_
  refine lv_aload_n hx hb dL_1554 rfl (lv_at hl 0 rfl) ?_
  refine lv_iload hx hb dL_1555 (lv_at hl 4 rfl) ?_
  refine lv_iconst (v := 1) hx hb dL_1557 (by decide) ?_
  refine lv_iadd hx hb dL_1558 ?_
  refine va_sld hx hb hX hbl hbA hS h1 dL_1559 ?_
  refine lv_aload_n hx hb dL_1560 rfl (lv_at hl 0 rfl) ?_
  refine lv_iload hx hb dL_1561 (lv_at hl 4 rfl) ?_
  refine lv_iconst (v := 2) hx hb dL_1563 (by decide) ?_
  refine lv_iadd hx hb dL_1564 ?_
  refine va_sld hx hb hX hbl hbA hS h2 dL_1565 ?_
  refine wk_callV (Z := Y_X12_cost) (as := [.int ((xs (nI i + 1).toNatClampNeg)), .int ((xs (nI i + 2).toNatClampNeg))]) (rest := [.int r]) (own := RL) (A0 := fun q => s.heap.size ≤ q) (H0 := s.heap) hx hb hml hts hown hK hN hiR lk_L_168 cv_X12_cost ob_R_0 rfl (by decide) (by decide) (Nat.le_of_ble_eq_true rfl) hroom (ct_X12_cost ((xs (nI i + 1).toNatClampNeg)) ((xs (nI i + 2).toNatClampNeg)) MR) hg hPR hS hAR hl.1 dL_1566 rfl (fun H2 locs2 hPR hz2 hk2 hS => ?_)
  have hPC := wk_keep hPC (fun q h1 h2 => hk2 q h1 (fun h3 => hCR q h3 h2))
  have hPo := wk_keepo hPo (fun h1 => hk2 qo h1 hRo)
  show W p l e room_1 s m #[.ref b] below meth c H2 locs2 _ _ _ (F0 m 1569 ls [.int r, .int r])
  refine lv_icmp_eq (tgt := 1624) hx hb dL_1569 (by decide) (fun _ => ?_) (fun h => absurd rfl h)
  exact W.widen (by omega) (by omega) (hnext MC1 MR1 fo H2 locs2 ls ⟨hR1, hPC, hPR, hPo, hS, hl⟩)
set_option maxHeartbeats 4000000 in
theorem law_32 {Rel : mm_M → mm_M → Prop} {p : Program} {l : Launch} {e : Env} {s : State} {m : MethodId} {below : List Frame} {meth : Method} {c : Code} {b L : Nat} {xs : Nat → Int32} {D : va_G} {cA : Nat → ClassId} {adC adR : Nat → Nat} {qo sa1 sa2 i : Nat} (hop : ∀ (a1 : Int32), op_i Rel (f_X11_most a1) (f_X12_most a1)) (hL : L ≤ 3584) (hi : i + 6 < L) (C0 : LwC p l s m meth c b L xs D cA adC adR qo sa1 sa2) (hnext : LwA Rel p l e s m below meth c b D cA adC adR qo i (140 + i + 7) (20000 + i + 7) 1624) : LwA Rel p l e s m below meth c b D cA adC adR qo i (140 + i) (20000 + i) 1574 := by
  obtain ⟨hx, hb, hml, hr, hlocks, hown, hts, hK, hN, hX, hbl, hiC, hiR, hCR, hCo, hRo, hAC, hAR, hAo, hxK, hNc, hxZ, hlt⟩ := id C0
  have hbA : ¬ (fun q : Nat => s.heap.size ≤ q) b := Nat.not_le.mpr hbl
  have hroom : 140 + i ≤ room_1.cells ∧ 20000 + i ≤ room_1.slots := ⟨by show 140 + i ≤ 601024; omega, by show 20000 + i ≤ 7293034; omega⟩
  have h1 : vp_in (nI i + 1) L := lw_h (k := 1) rfl (by omega) hi hL
  have h2 : vp_in (nI i + 2) L := lw_h (k := 2) rfl (by omega) hi hL
  have h3 : vp_in (nI i + 3) L := lw_h (k := 3) rfl (by omega) hi hL
  have h4 : vp_in (nI i + 4) L := lw_h (k := 4) rfl (by omega) hi hL
  have h5 : vp_in (nI i + 5) L := lw_h (k := 5) rfl (by omega) hi hL
  have h6 : vp_in (nI i + 6) L := lw_h (k := 6) rfl (by omega) hi hL
  intro MC MR fo H locs ls hI
  obtain ⟨hR, hPC, hPR, hPo, hS, hl⟩ := hI
  refine lv_aload_n hx hb dL_1574 rfl (lv_at hl 1 rfl) ?_
  refine lv_aload_n hx hb dL_1575 rfl (lv_at hl 0 rfl) ?_
  refine lv_iload hx hb dL_1576 (lv_at hl 4 rfl) ?_
  refine lv_iconst (v := 1) hx hb dL_1578 (by decide) ?_
  refine lv_iadd hx hb dL_1579 ?_
  refine va_sld hx hb hX hbl hbA hS h1 dL_1580 ?_
  obtain ⟨r, MC1, MR1, hf, hg, hR1⟩ := hop ((xs (nI i + 1).toNatClampNeg)) MC MR hR
  refine wk_callV (Z := Y_X11_most) (as := [.int ((xs (nI i + 1).toNatClampNeg))]) (rest := []) (own := RL) (A0 := fun q => s.heap.size ≤ q) (H0 := s.heap) hx hb hml hts hown hK hN hiC lk_L_169 cv_X11_most ob_C_0 rfl (by decide) (by decide) (Nat.le_of_ble_eq_true rfl) hroom (ct_X11_most ((xs (nI i + 1).toNatClampNeg)) MC) hf hPC hS hAC hl.1 dL_1581 rfl (fun H1 locs1 hPC hz1 hk1 hS => ?_)
  have hPR := wk_keep hPR (fun q h1 h2 => hk1 q h1 (hCR q h2))
  have hPo := wk_keepo hPo (fun h1 => hk1 qo h1 hCo)
  show W p l e room_1 s m #[.ref b] below meth c H1 locs1 _ _ _ (F0 m 1584 ls [.int r])
  refine lv_aload_n hx hb dL_1584 rfl (lv_at hl 2 rfl) ?_
  refine lv_aload_n hx hb dL_1585 rfl (lv_at hl 0 rfl) ?_
  refine lv_iload hx hb dL_1586 (lv_at hl 4 rfl) ?_
  refine lv_iconst (v := 1) hx hb dL_1588 (by decide) ?_
  refine lv_iadd hx hb dL_1589 ?_
  refine va_sld hx hb hX hbl hbA hS h1 dL_1590 ?_
  refine wk_callV (Z := Y_X12_most) (as := [.int ((xs (nI i + 1).toNatClampNeg))]) (rest := [.int r]) (own := RL) (A0 := fun q => s.heap.size ≤ q) (H0 := s.heap) hx hb hml hts hown hK hN hiR lk_L_172 cv_X12_most ob_R_0 rfl (by decide) (by decide) (Nat.le_of_ble_eq_true rfl) hroom (ct_X12_most ((xs (nI i + 1).toNatClampNeg)) MR) hg hPR hS hAR hl.1 dL_1591 rfl (fun H2 locs2 hPR hz2 hk2 hS => ?_)
  have hPC := wk_keep hPC (fun q h1 h2 => hk2 q h1 (fun h3 => hCR q h3 h2))
  have hPo := wk_keepo hPo (fun h1 => hk2 qo h1 hRo)
  show W p l e room_1 s m #[.ref b] below meth c H2 locs2 _ _ _ (F0 m 1594 ls [.int r, .int r])
  refine lv_icmp_eq (tgt := 1624) hx hb dL_1594 (by decide) (fun _ => ?_) (fun h => absurd rfl h)
  exact W.widen (by omega) (by omega) (hnext MC1 MR1 fo H2 locs2 ls ⟨hR1, hPC, hPR, hPo, hS, hl⟩)
set_option maxHeartbeats 4000000 in
theorem law_33 {Rel : mm_M → mm_M → Prop} {p : Program} {l : Launch} {e : Env} {s : State} {m : MethodId} {below : List Frame} {meth : Method} {c : Code} {b L : Nat} {xs : Nat → Int32} {D : va_G} {cA : Nat → ClassId} {adC adR : Nat → Nat} {qo sa1 sa2 i : Nat} (hop : ∀ (a1 : Int32), op_i Rel (f_X11_count a1) (f_X12_count a1)) (hL : L ≤ 3584) (hi : i + 6 < L) (C0 : LwC p l s m meth c b L xs D cA adC adR qo sa1 sa2) (hnext : LwA Rel p l e s m below meth c b D cA adC adR qo i (140 + i + 7) (20000 + i + 7) 1624) : LwA Rel p l e s m below meth c b D cA adC adR qo i (140 + i) (20000 + i) 1599 := by
  obtain ⟨hx, hb, hml, hr, hlocks, hown, hts, hK, hN, hX, hbl, hiC, hiR, hCR, hCo, hRo, hAC, hAR, hAo, hxK, hNc, hxZ, hlt⟩ := id C0
  have hbA : ¬ (fun q : Nat => s.heap.size ≤ q) b := Nat.not_le.mpr hbl
  have hroom : 140 + i ≤ room_1.cells ∧ 20000 + i ≤ room_1.slots := ⟨by show 140 + i ≤ 601024; omega, by show 20000 + i ≤ 7293034; omega⟩
  have h1 : vp_in (nI i + 1) L := lw_h (k := 1) rfl (by omega) hi hL
  have h2 : vp_in (nI i + 2) L := lw_h (k := 2) rfl (by omega) hi hL
  have h3 : vp_in (nI i + 3) L := lw_h (k := 3) rfl (by omega) hi hL
  have h4 : vp_in (nI i + 4) L := lw_h (k := 4) rfl (by omega) hi hL
  have h5 : vp_in (nI i + 5) L := lw_h (k := 5) rfl (by omega) hi hL
  have h6 : vp_in (nI i + 6) L := lw_h (k := 6) rfl (by omega) hi hL
  intro MC MR fo H locs ls hI
  obtain ⟨hR, hPC, hPR, hPo, hS, hl⟩ := hI
  refine lv_aload_n hx hb dL_1599 rfl (lv_at hl 1 rfl) ?_
  refine lv_aload_n hx hb dL_1600 rfl (lv_at hl 0 rfl) ?_
  refine lv_iload hx hb dL_1601 (lv_at hl 4 rfl) ?_
  refine lv_iconst (v := 1) hx hb dL_1603 (by decide) ?_
  refine lv_iadd hx hb dL_1604 ?_
  refine va_sld hx hb hX hbl hbA hS h1 dL_1605 ?_
  obtain ⟨r, MC1, MR1, hf, hg, hR1⟩ := hop ((xs (nI i + 1).toNatClampNeg)) MC MR hR
  refine wk_callV (Z := Y_X11_count) (as := [.int ((xs (nI i + 1).toNatClampNeg))]) (rest := []) (own := RL) (A0 := fun q => s.heap.size ≤ q) (H0 := s.heap) hx hb hml hts hown hK hN hiC lk_L_173 cv_X11_count ob_C_0 rfl (by decide) (by decide) (Nat.le_of_ble_eq_true rfl) hroom (ct_X11_count ((xs (nI i + 1).toNatClampNeg)) MC) hf hPC hS hAC hl.1 dL_1606 rfl (fun H1 locs1 hPC hz1 hk1 hS => ?_)
  have hPR := wk_keep hPR (fun q h1 h2 => hk1 q h1 (hCR q h2))
  have hPo := wk_keepo hPo (fun h1 => hk1 qo h1 hCo)
  show W p l e room_1 s m #[.ref b] below meth c H1 locs1 _ _ _ (F0 m 1609 ls [.int r])
  refine lv_aload_n hx hb dL_1609 rfl (lv_at hl 2 rfl) ?_
  refine lv_aload_n hx hb dL_1610 rfl (lv_at hl 0 rfl) ?_
  refine lv_iload hx hb dL_1611 (lv_at hl 4 rfl) ?_
  refine lv_iconst (v := 1) hx hb dL_1613 (by decide) ?_
  refine lv_iadd hx hb dL_1614 ?_
  refine va_sld hx hb hX hbl hbA hS h1 dL_1615 ?_
  refine wk_callV (Z := Y_X12_count) (as := [.int ((xs (nI i + 1).toNatClampNeg))]) (rest := [.int r]) (own := RL) (A0 := fun q => s.heap.size ≤ q) (H0 := s.heap) hx hb hml hts hown hK hN hiR lk_L_176 cv_X12_count ob_R_0 rfl (by decide) (by decide) (Nat.le_of_ble_eq_true rfl) hroom (ct_X12_count ((xs (nI i + 1).toNatClampNeg)) MR) hg hPR hS hAR hl.1 dL_1616 rfl (fun H2 locs2 hPR hz2 hk2 hS => ?_)
  have hPC := wk_keep hPC (fun q h1 h2 => hk2 q h1 (fun h3 => hCR q h3 h2))
  have hPo := wk_keepo hPo (fun h1 => hk2 qo h1 hRo)
  show W p l e room_1 s m #[.ref b] below meth c H2 locs2 _ _ _ (F0 m 1619 ls [.int r, .int r])
  refine lv_icmp_eq (tgt := 1624) hx hb dL_1619 (by decide) (fun _ => ?_) (fun h => absurd rfl h)
  exact W.widen (by omega) (by omega) (hnext MC1 MR1 fo H2 locs2 ls ⟨hR1, hPC, hPR, hPo, hS, hl⟩)
theorem lb_good : GoodIn mm_T (va_wsS RL 70 yL_back lb_ws) := by
  intro w hw
  have hm : w ∈ mm_T := by
    unfold va_wsS lb_ws at hw
    simp only [List.cons_append, List.nil_append, List.mem_cons] at hw
    rcases hw with rfl | rfl | rfl | rfl | hw
    · exact lk_L_70
    · exact st_L_back
    · exact it_L
    · exact cw_L_back
    · exact hw
  exact ⟨hm, good_of_word (List.mem_filter.mp hm).2⟩
set_option maxHeartbeats 4000000 in
theorem law_11 {Rel : mm_M → mm_M → Prop} {p : Program} {l : Launch} {e : Env} {s : State} {m : MethodId} {below : List Frame} {meth : Method} {c : Code} {b L : Nat} {xs : Nat → Int32} {D : va_G} {cA : Nat → ClassId} {adC adR : Nat → Nat} {qo sa1 sa2 i : Nat} (hop : ∀ a1 : Int32, op_b Rel a1) (hL : L ≤ 3584) (hi : i + 6 < L) (C0 : LwC p l s m meth c b L xs D cA adC adR qo sa1 sa2) (hnext : LwA Rel p l e s m below meth c b D cA adC adR qo i (140 + i + 7) (20000 + i + 7) 1624) : LwA Rel p l e s m below meth c b D cA adC adR qo i (140 + i) (20000 + i) 643 := by
  obtain ⟨hx, hb, hml, hr, hlocks, hown, hts, hK, hN, hX, hbl, hiC, hiR, hCR, hCo, hRo, hAC, hAR, hAo, hxK, hNc, hxZ, hlt⟩ := id C0
  have hbA : ¬ (fun q : Nat => s.heap.size ≤ q) b := Nat.not_le.mpr hbl
  have hroom : 140 + i ≤ room_1.cells ∧ 20000 + i ≤ room_1.slots := ⟨by show 140 + i ≤ 601024; omega, by show 20000 + i ≤ 7293034; omega⟩
  have h1 : vp_in (nI i + 1) L := lw_h (k := 1) rfl (by omega) hi hL
  have h2 : vp_in (nI i + 2) L := lw_h (k := 2) rfl (by omega) hi hL
  have h3 : vp_in (nI i + 3) L := lw_h (k := 3) rfl (by omega) hi hL
  have h4 : vp_in (nI i + 4) L := lw_h (k := 4) rfl (by omega) hi hL
  have h5 : vp_in (nI i + 5) L := lw_h (k := 5) rfl (by omega) hi hL
  have h6 : vp_in (nI i + 6) L := lw_h (k := 6) rfl (by omega) hi hL
  intro MC MR fo H locs ls hI
  obtain ⟨hR, hPC, hPR, hPo, hS, hl⟩ := hI
  have hroom1 : 140 + i + 1 ≤ room_1.cells ∧ 20000 + i + 6 ≤ room_1.slots := ⟨by show 140 + i + 1 ≤ 601024; omega, by show 20000 + i + 6 ≤ 7293034; omega⟩
  obtain ⟨q, r, MR1, MR2, hf, hg, hth, hv, hR1⟩ := hop (xs (nI i + 1).toNatClampNeg) MC MR hR
  refine lv_aload_n hx hb dL_643 rfl (lv_at hl 1 rfl) ?_
  refine lv_aload_n hx hb dL_644 rfl (lv_at hl 0 rfl) ?_
  refine lv_iload hx hb dL_645 (lv_at hl 4 rfl) ?_
  refine lv_iconst (v := 1) hx hb dL_647 (by decide) ?_
  refine lv_iadd hx hb dL_648 ?_
  refine va_sld hx hb hX hbl hbA hS h1 dL_649 ?_
  refine lv_aload_n hx hb dL_650 rfl (lv_at hl 3 rfl) ?_
  have hAL : ∀ z, lb_A adC qo z → s.heap.size ≤ z := fun z hz => hz.elim (hAC z) (fun h => by rw [h]; exact hAo)
  have run := vx_runSW (p := p) (l := l) (e := e) (R := room_1) (s := s) (m := m) (args := #[Value.ref b]) (below := below) (meth := meth) (c := c) (H := H) (locs := locs) (cells := 140 + i) (slots := 20000 + i) (g := F0 m 651 ls [.ref qo, .int (xs (nI i + 1).toNatClampNeg), .ref (adC 0)]) (rest := []) (As := [.ref (adC 0), .int (xs (nI i + 1).toNatClampNeg), .ref qo]) (own := RL) (Ts := mm_T) (cc := cL_law) (nL := 8)
    ⟨hx, hb, hml, hown, hts⟩ (lb_back l hlt D cA adC hiC qo hCo fo (xs (nI i + 1).toNatClampNeg) MC q hf sa1 sa2) (vx_cwSW (ret := some .int) (maxL := 4) 3 hts lb_good rfl rfl rfl ⟨by decide +kernel, by decide +kernel, by decide +kernel⟩ ⟨by decide, by decide⟩)
    ⟨fun z U g mk h => ⟨h.1, h.2.1, h.2.2.1, va_K.moved (u := U) (U := U.calling g mk z) (Vm.Alike.refl U.vm) h.2.2.2.1, va_Nw.same rfl rfl h.2.2.2.2.1, xK.same (u := U) (U := U.calling g mk z) rfl h.2.2.2.2.2.1, h.2.2.2.2.2.2.1.moved (Vm.Alike.refl U.vm), h.2.2.2.2.2.2.2.moved (Vm.Alike.refl U.vm)⟩, fun U hU hW => ⟨rfl, by rw [hU]; exact hPC, by rw [hU]; exact hPo, va_K.moved hW.alike hK, va_Nw.warmM hW hN, hxK.warm hW, hNc.moved hW.alike, by rw [hU]; exact ((hxZ.kept hS.2.1).narrow hAL).moved hW.alike⟩⟩
    rfl rfl hl.1 rfl (lv_room (Nat.le_of_ble_eq_true rfl)) dL_651 hroom1
  refine va_calli run hS (fun z _ h => hAL z h) hAL (fun r1 fo1 t H1 locs1 ht hvm hpost hBt hz1 hk1 hS => ?_)
  obtain ⟨hPC, hPo⟩ := hBt
  rw [ht] at hPC hPo
  obtain ⟨rfl, hpo⟩ := hpost
  have hPR := wk_keep hPR (fun z h1 h2 => hk1 z h1 (fun h3 => h3.elim (hCR z h2) (fun h4 => hRo (by rw [← h4]; exact h2))))
  refine lv_istore (lv' := [(5, .int q.1), (0, .ref b), (1, .ref (adC 0)), (2, .ref (adR 0)), (3, .ref qo), (4, .int (nI i))]) hx hb dL_654 hl (by decide) rfl (fun ls hl => ?_)
  refine lv_aload_n hx hb dL_656 rfl (lv_at hl 3 rfl) ?_
  refine lv_aload_n hx hb dL_657 rfl (lv_at hl 1 rfl) ?_
  refine lv_iload hx hb dL_658 (lv_at hl 5 rfl) ?_
  refine lv_iconst (v := 1) hx hb dL_660 (by decide) ?_
  refine lv_iadd hx hb dL_661 ?_
  refine va_sld hx hb hX hbl hbA hS h1 dL_662 ?_
  refine wk_callV (Z := Y_X12_back) (as := [.int (xs (nI i + 1).toNatClampNeg)]) (rest := []) (own := RL) (A0 := fun q => s.heap.size ≤ q) (H0 := s.heap) hx hb hml hts hown hK hN hiR lk_L_75 cv_X12_back ob_R_0 rfl (by decide) (by decide) (Nat.le_of_ble_eq_true rfl) hroom1 (ct_X12_back (xs (nI i + 1).toNatClampNeg) MR) hg hPR hS hAR hl.1 dL_663 rfl (fun H2 locs2 hPR hz2 hk2 hS => ?_)
  have hPC := wk_keep hPC (fun z h1 h2 => hk2 z h1 (fun h3 => hCR z h3 h2))
  have hPo := wk_keepo hPo (fun h1 => hk2 qo h1 hRo)
  show W p l e room_1 s m #[.ref b] below meth c H2 locs2 _ _ _ (F0 m 666 ls [.long r])
  refine lv_lstore (lv' := [(6, .long r), (5, .int q.1), (0, .ref b), (1, .ref (adC 0)), (2, .ref (adR 0)), (3, .ref qo), (4, .int (nI i))]) hx hb dL_666 hl (by decide) rfl (fun ls hl => ?_)
  refine lv_aload_n hx hb dL_668 rfl (lv_at hl 4 rfl) ?_
  refine wk_callV (Z := Y_X12_thrown) (as := []) (rest := []) (own := RL) (A0 := fun q => s.heap.size ≤ q) (H0 := s.heap) hx hb hml hts hown hK hN hiR lk_L_76 cv_X12_thrown ob_R_0 rfl (by decide) (by decide) (Nat.le_of_ble_eq_true rfl) hroom1 (ct_X12_thrown MR1) hth hPR hS hAR hl.1 dL_669 rfl (fun H3 locs3 hPR hz3 hk3 hS => ?_)
  have hPC := wk_keep hPC (fun z h1 h2 => hk3 z h1 (fun h3 => hCR z h3 h2))
  have hPo := wk_keepo hPo (fun h1 => hk3 qo h1 hRo)
  show W p l e room_1 s m #[.ref b] below meth c H3 locs3 _ _ _ (F0 m 672 ls [.int q.1])
  have hend : W p l e room_1 s m #[.ref b] below meth c H3 locs3 (140 + i + 1) (20000 + i + 6) (lw_Z below #[Value.ref b] s) (F0 m 695 ls []) := by
    refine lv_goto (tgt := 1624) hx hb dL_695 (by decide) ?_
    exact W.widen (by omega) (by omega) (hnext q.2.2 MR2 fo1 H3 locs3 ls ⟨hR1, hPC, hPR, hPo, hS, lv_sub hl [2, 3, 4, 5, 6] rfl⟩)
  refine lv_iload hx hb dL_672 (lv_at hl 1 rfl) ?_
  refine lv_icmp_eq (tgt := 679) hx hb dL_674 (by decide) (fun _ => ?_) (fun h => absurd rfl h)
  refine lv_iload hx hb dL_679 (lv_at hl 1 rfl) ?_
  refine lv_if_ne (tgt := 695) hx hb dL_681 (by decide) (fun _ => hend) (fun h0 => ?_)
  refine lv_aload_n hx hb dL_684 rfl (lv_at hl 5 rfl) ?_
  refine lv_iconst (v := 0) hx hb dL_685 (by decide) ?_
  refine va_lald (i := 0) hx hb hK hPo 0 2 rfl rfl (by unfold vp_in; decide) dL_686 ?_
  refine lv_lload hx hb dL_687 (lv_at hl 0 rfl) ?_
  refine W.lcmp hx hb dL_689 ?_
  have h0' : q.1 = 0 := Decidable.not_not.mp (fun h => (h h0).elim)
  refine lv_if_eq (tgt := 695) hx hb dL_690 (by decide) (fun _ => hend) (fun h => absurd ?_ h)
  have e1 : fo1 (0 : Int32).toNatClampNeg = r := (hpo h0').trans (hv h0')
  rw [e1]
  exact lg_cmp_self r

def OpsOk (Rel : mm_M → mm_M → Prop) : Prop :=
  (∀ (a1 : Int32), op_i Rel (f_X11_days a1) (f_X12_days a1)) ∧
  (∀ (a1 : Int32) (a2 : Int32) (a3 : Int32) (a4 : Int32), op_i Rel (f_X11_shop a1 a2 a3 a4) (f_X12_shop a1 a2 a3 a4)) ∧
  (∀ (a1 : Int32) (a2 : Int32), op_i Rel (f_X11_weight a1 a2) (f_X12_weight a1 a2)) ∧
  (∀ (a1 : Int32) (a2 : Int32), (a2 = 0 ∨ a2 = 1) → op_i Rel (f_X11_open a1 a2) (f_X12_open a1 a2)) ∧
  (∀ (a1 : Int32), op_i Rel (f_X11_sell a1) (f_X12_sell a1)) ∧
  (∀ (a1 : Int32) (a2 : Int32), op_i Rel (f_X11_child a1 a2) (f_X12_child a1 a2)) ∧
  (∀ (a1 : Int32) (a2 : Int32), op_i Rel (f_X11_guess a1 a2) (f_X12_guess a1 a2)) ∧
  (∀ (a1 : Int32) (a2 : Int32), op_i Rel (f_X11_childOf a1 a2) (f_X12_childOf a1 a2)) ∧
  (∀ (a1 : Int32) (a2 : Int32) (a3 : Int32), (a3 = 0 ∨ a3 = 1) → op_i Rel (f_X11_known a1 a2 a3) (f_X12_known a1 a2 a3)) ∧
  (∀ (a1 : Int32) (a2 : Int32), op_i Rel (f_X11_draw a1 a2) (f_X12_draw a1 a2)) ∧
  (∀ (a1 : Int32) (a2 : Int32), op_i Rel (f_X11_drawn a1 a2) (f_X12_drawn a1 a2)) ∧
  (∀ (a1 : Int32) (a2 : Int64), op_i Rel (f_X11_feed a1 a2) (f_X12_feed a1 a2)) ∧
  (∀ (a1 : Int32) (a2 : Int32), op_i Rel (f_X11_rule a1 a2) (f_X12_rule a1 a2)) ∧
  (∀ (a1 : Int32) (a2 : Int32), op_i Rel (f_X11_force a1 a2) (f_X12_force a1 a2)) ∧
  (∀ (a1 : Int32) (a2 : Int32) (a3 : Int32) (a4 : Int32) (a5 : Int32) (a6 : Int32), op_i Rel (f_X11_test a1 a2 a3 a4 a5 a6) (f_X12_test a1 a2 a3 a4 a5 a6)) ∧
  (∀ (a1 : Int32), op_i Rel (f_X11_appeal a1) (f_X12_appeal a1)) ∧
  (∀ (a1 : Int32) (a2 : Int32) (a3 : Int32), op_i Rel (f_X11_testOf a1 a2 a3) (f_X12_testOf a1 a2 a3)) ∧
  (∀ (a1 : Int32) (a2 : Int32) (a3 : Int32), op_i Rel (f_X11_fact a1 a2 a3) (f_X12_fact a1 a2 a3)) ∧
  (∀ (a1 : Int32) (a2 : Int32) (a3 : Int32), op_i Rel (f_X11_step a1 a2 a3) (f_X12_step a1 a2 a3)) ∧
  (op_i Rel (f_X11_lost) (f_X12_lost)) ∧
  (∀ (a1 : Int32), op_i Rel (f_X11_leave a1) (f_X12_leave a1)) ∧
  (∀ (a1 : Int32) (a2 : Int32) (a3 : Int32), op_i Rel (f_X11_work a1 a2 a3) (f_X12_work a1 a2 a3)) ∧
  (∀ (a1 : Int32) (a2 : Int32) (a3 : Int32) (a4 : Int32), (a3 = 0 ∨ a3 = 1) → op_i Rel (f_X11_workAt a1 a2 a3 a4) (f_X12_workAt a1 a2 a3 a4)) ∧
  (∀ (a1 : Int32), op_i Rel (f_X11_letters a1) (f_X12_letters a1)) ∧
  (∀ (a1 : Int32), op_i Rel (f_X11_letter a1) (f_X12_letter a1)) ∧
  (∀ (a1 : Int32) (a2 : Int32), op_l Rel (f_X11_helped a1 a2) (f_X12_helped a1 a2)) ∧
  (∀ (a1 : Int32) (a2 : Int32) (a3 : Int32) (a4 : Int32), op_l Rel (f_X11_wards a1 a2 a3 a4) (f_X12_wards a1 a2 a3 a4)) ∧
  (∀ (a1 : Int32) (a2 : Int32) (a3 : Int32) (a4 : Int32) (a5 : Int32), op_i Rel (f_X11_clerk a1 a2 a3 a4 a5) (f_X12_clerk a1 a2 a3 a4 a5)) ∧
  (∀ (a1 : Int32) (a2 : Int32), op_i Rel (f_X11_tally a1 a2) (f_X12_tally a1 a2)) ∧
  (op_i Rel (f_X11_worst) (f_X12_worst)) ∧
  (∀ (a1 : Int32) (a2 : Int32), op_i Rel (f_X11_cost a1 a2) (f_X12_cost a1 a2)) ∧
  (∀ (a1 : Int32), op_i Rel (f_X11_most a1) (f_X12_most a1)) ∧
  (∀ (a1 : Int32), op_i Rel (f_X11_count a1) (f_X12_count a1)) ∧
  (∀ a1 : Int32, op_b Rel a1)
