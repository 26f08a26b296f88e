set_option maxHeartbeats 4000000 in
set_option maxRecDepth 100000 in
theorem lc_way {p : Program} {l : Launch} {e : Env} {s : State} {m : MethodId} {below : List Frame} {meth : Method} {c : Code} {b L : Nat} {xs : Nat → Int32} {D : va_G} {cs : ClassId × ClassId × ClassId × ClassId} {aC aR : Nat → Nat} {Q : State → Prop} (E : LE p s m meth c b L xs D cs aC aR) {x3 : Int32} {σC σR : ft_St} {H : Heap} {locs : List Loc} {ls : Array Slot} (hsim : SIM σC σR) (hw : LW s D cs aC aR σC σR H locs) (h1 : vp_in (x3 + 1) L) (h2 : vp_in (x3 + 2) L) (h3 : vp_in (x3 + 3) L) (hl : lv_has ls 4 [(3, .int x3), (2, .ref (aR 0)), (1, .ref (aC 0)), (0, .ref b)]) (kk : ∀ (σC σR : ft_St) (H : Heap) (locs : List Loc), SIM σC σR → LW s D cs aC aR σC σR H locs → W p l e room_1 s m #[Value.ref b] below meth c H locs 96 5813 Q (F0 m 680 ls [])) : W p l e room_1 s m #[Value.ref b] below meth c H locs 96 5813 Q (F0 m 140 ls []) := by
  obtain ⟨hx, hb, hr, hml, hown, hts, hX, hbl, hlocks, hK, hN, hIC, hIR, hC, hR, hne⟩ := E
  obtain ⟨hPC, hPR, hS⟩ := hw
  have hbA : ¬ (fun q : Nat => s.heap.size ≤ q) b := Nat.not_le.mpr hbl
  refine lv_aload_n hx hb dL_law_140 rfl (lv_at hl 2 rfl) ?_
  refine lv_aload_n hx hb dL_law_141 rfl (lv_at hl 3 rfl) ?_
  refine lv_iload_n hx hb dL_law_142 rfl (lv_at hl 0 rfl) ?_
  refine lv_iconst (v := 1) hx hb dL_law_143 (by decide) ?_
  refine lv_iadd hx hb dL_law_144 ?_
  refine va_sld hx hb hX hbl hbA hS h1 dL_law_145 ?_
  refine lv_aload_n hx hb dL_law_146 rfl (lv_at hl 3 rfl) ?_
  refine lv_iload_n hx hb dL_law_147 rfl (lv_at hl 0 rfl) ?_
  refine lv_iconst (v := 2) hx hb dL_law_148 (by decide) ?_
  refine lv_iadd hx hb dL_law_149 ?_
  refine va_sld hx hb hX hbl hbA hS h2 dL_law_150 ?_
  refine lv_aload_n hx hb dL_law_151 rfl (lv_at hl 3 rfl) ?_
  refine lv_iload_n hx hb dL_law_152 rfl (lv_at hl 0 rfl) ?_
  refine lv_iconst (v := 3) hx hb dL_law_153 (by decide) ?_
  refine lv_iadd hx hb dL_law_154 ?_
  refine va_sld hx hb hX hbl hbA hS h3 dL_law_155 ?_
  refine cC_Gi (Γ := (D, cs, aC)) (As := [.int (xs (x3 + 1).toNatClampNeg), .int (xs (x3 + 2).toNatClampNeg), .int (xs (x3 + 3).toNatClampNeg)]) (rest := []) ⟨hx, hb, hml, hown, hts⟩ (c_X9_way l (D, cs, aC) hIC _ _ _ σC _ (s_way hsim)) (cwV 3 hts gL_law_X9_way rfl rfl rfl (by decide +kernel) ⟨Nat.le_of_ble_eq_true rfl, Nat.le_of_ble_eq_true rfl⟩) hK hN hPC hS hC rfl hl.1 rfl (Nat.le_of_ble_eq_true rfl) dL_law_156 ⟨Nat.le_of_ble_eq_true rfl, Nat.le_of_ble_eq_true rfl⟩ (fun r σC H locs hw hPC hk hS => ?_)
  have hPR := ft_keep hPR hk (fun i j hi hj e => hne j i hj hi e.symm)
  refine lv_aload_n hx hb dL_law_159 rfl (lv_at hl 1 rfl) ?_
  refine lv_aload_n hx hb dL_law_160 rfl (lv_at hl 3 rfl) ?_
  refine lv_iload_n hx hb dL_law_161 rfl (lv_at hl 0 rfl) ?_
  refine lv_iconst (v := 1) hx hb dL_law_162 (by decide) ?_
  refine lv_iadd hx hb dL_law_163 ?_
  refine va_sld hx hb hX hbl hbA hS h1 dL_law_164 ?_
  refine lv_aload_n hx hb dL_law_165 rfl (lv_at hl 3 rfl) ?_
  refine lv_iload_n hx hb dL_law_166 rfl (lv_at hl 0 rfl) ?_
  refine lv_iconst (v := 2) hx hb dL_law_167 (by decide) ?_
  refine lv_iadd hx hb dL_law_168 ?_
  refine va_sld hx hb hX hbl hbA hS h2 dL_law_169 ?_
  refine lv_aload_n hx hb dL_law_170 rfl (lv_at hl 3 rfl) ?_
  refine lv_iload_n hx hb dL_law_171 rfl (lv_at hl 0 rfl) ?_
  refine lv_iconst (v := 3) hx hb dL_law_172 (by decide) ?_
  refine lv_iadd hx hb dL_law_173 ?_
  refine va_sld hx hb hX hbl hbA hS h3 dL_law_174 ?_
  refine cR_Gi (Γ := (D, cs, aR)) (As := [.int (xs (x3 + 1).toNatClampNeg), .int (xs (x3 + 2).toNatClampNeg), .int (xs (x3 + 3).toNatClampNeg)]) (rest := [.int r]) ⟨hx, hb, hml, hown, hts⟩ (c_X10_way l (D, cs, aR) hIR _ _ _ σR _ hw) (cwV 3 hts gL_law_X10_way rfl rfl rfl (by decide +kernel) ⟨Nat.le_of_ble_eq_true rfl, Nat.le_of_ble_eq_true rfl⟩) hK hPR hS hR rfl hl.1 rfl (Nat.le_of_ble_eq_true rfl) dL_law_175 ⟨Nat.le_of_ble_eq_true rfl, Nat.le_of_ble_eq_true rfl⟩ (fun r2 σR H locs hw hPR hk hS => ?_)
  have hPC := ft_keep hPC hk hne
  exact lv_icmp_eq (tgt := 680) hx hb dL_law_178 (by decide) (fun _ => kk _ _ _ _ hw.2 ⟨hPC, hPR, hS⟩) (fun h => absurd hw.1 h)
set_option maxHeartbeats 4000000 in
set_option maxRecDepth 100000 in
theorem lc_drop {p : Program} {l : Launch} {e : Env} {s : State} {m : MethodId} {below : List Frame} {meth : Method} {c : Code} {b L : Nat} {xs : Nat → Int32} {D : va_G} {cs : ClassId × ClassId × ClassId × ClassId} {aC aR : Nat → Nat} {Q : State → Prop} (E : LE p s m meth c b L xs D cs aC aR) {x3 : Int32} {σC σR : ft_St} {H : Heap} {locs : List Loc} {ls : Array Slot} (hsim : SIM σC σR) (hw : LW s D cs aC aR σC σR H locs) (h1 : vp_in (x3 + 1) L) (h2 : vp_in (x3 + 2) L) (h3 : vp_in (x3 + 3) L) (hl : lv_has ls 4 [(3, .int x3), (2, .ref (aR 0)), (1, .ref (aC 0)), (0, .ref b)]) (kk : ∀ (σC σR : ft_St) (H : Heap) (locs : List Loc), SIM σC σR → LW s D cs aC aR σC σR H locs → W p l e room_1 s m #[Value.ref b] below meth c H locs 96 5813 Q (F0 m 680 ls [])) : W p l e room_1 s m #[Value.ref b] below meth c H locs 96 5813 Q (F0 m 183 ls []) := by
  obtain ⟨hx, hb, hr, hml, hown, hts, hX, hbl, hlocks, hK, hN, hIC, hIR, hC, hR, hne⟩ := E
  obtain ⟨hPC, hPR, hS⟩ := hw
  have hbA : ¬ (fun q : Nat => s.heap.size ≤ q) b := Nat.not_le.mpr hbl
  refine lv_aload_n hx hb dL_law_183 rfl (lv_at hl 2 rfl) ?_
  refine lv_aload_n hx hb dL_law_184 rfl (lv_at hl 3 rfl) ?_
  refine lv_iload_n hx hb dL_law_185 rfl (lv_at hl 0 rfl) ?_
  refine lv_iconst (v := 1) hx hb dL_law_186 (by decide) ?_
  refine lv_iadd hx hb dL_law_187 ?_
  refine va_sld hx hb hX hbl hbA hS h1 dL_law_188 ?_
  refine cC_Gi (Γ := (D, cs, aC)) (As := [.int (xs (x3 + 1).toNatClampNeg)]) (rest := []) ⟨hx, hb, hml, hown, hts⟩ (c_X9_drop l (D, cs, aC) hIC _ σC _ (s_drop hsim)) (cwV 1 hts gL_law_X9_drop rfl rfl rfl (by decide +kernel) ⟨Nat.le_of_ble_eq_true rfl, Nat.le_of_ble_eq_true rfl⟩) hK hN hPC hS hC rfl hl.1 rfl (Nat.le_of_ble_eq_true rfl) dL_law_189 ⟨Nat.le_of_ble_eq_true rfl, Nat.le_of_ble_eq_true rfl⟩ (fun r σC H locs hw hPC hk hS => ?_)
  have hPR := ft_keep hPR hk (fun i j hi hj e => hne j i hj hi e.symm)
  refine lv_aload_n hx hb dL_law_192 rfl (lv_at hl 1 rfl) ?_
  refine lv_aload_n hx hb dL_law_193 rfl (lv_at hl 3 rfl) ?_
  refine lv_iload_n hx hb dL_law_194 rfl (lv_at hl 0 rfl) ?_
  refine lv_iconst (v := 1) hx hb dL_law_195 (by decide) ?_
  refine lv_iadd hx hb dL_law_196 ?_
  refine va_sld hx hb hX hbl hbA hS h1 dL_law_197 ?_
  refine cR_Gi (Γ := (D, cs, aR)) (As := [.int (xs (x3 + 1).toNatClampNeg)]) (rest := [.int r]) ⟨hx, hb, hml, hown, hts⟩ (c_X10_drop l (D, cs, aR) hIR _ σR _ hw) (cwV 1 hts gL_law_X10_drop rfl rfl rfl (by decide +kernel) ⟨Nat.le_of_ble_eq_true rfl, Nat.le_of_ble_eq_true rfl⟩) hK hPR hS hR rfl hl.1 rfl (Nat.le_of_ble_eq_true rfl) dL_law_198 ⟨Nat.le_of_ble_eq_true rfl, Nat.le_of_ble_eq_true rfl⟩ (fun r2 σR H locs hw hPR hk hS => ?_)
  have hPC := ft_keep hPC hk hne
  exact lv_icmp_eq (tgt := 680) hx hb dL_law_201 (by decide) (fun _ => kk _ _ _ _ hw.2 ⟨hPC, hPR, hS⟩) (fun h => absurd hw.1 h)
set_option maxHeartbeats 4000000 in
set_option maxRecDepth 100000 in
theorem lc_deed {p : Program} {l : Launch} {e : Env} {s : State} {m : MethodId} {below : List Frame} {meth : Method} {c : Code} {b L : Nat} {xs : Nat → Int32} {D : va_G} {cs : ClassId × ClassId × ClassId × ClassId} {aC aR : Nat → Nat} {Q : State → Prop} (E : LE p s m meth c b L xs D cs aC aR) {x3 : Int32} {σC σR : ft_St} {H : Heap} {locs : List Loc} {ls : Array Slot} (hsim : SIM σC σR) (hw : LW s D cs aC aR σC σR H locs) (h1 : vp_in (x3 + 1) L) (h2 : vp_in (x3 + 2) L) (h3 : vp_in (x3 + 3) L) (hl : lv_has ls 4 [(3, .int x3), (2, .ref (aR 0)), (1, .ref (aC 0)), (0, .ref b)]) (kk : ∀ (σC σR : ft_St) (H : Heap) (locs : List Loc), SIM σC σR → LW s D cs aC aR σC σR H locs → W p l e room_1 s m #[Value.ref b] below meth c H locs 96 5813 Q (F0 m 680 ls [])) : W p l e room_1 s m #[Value.ref b] below meth c H locs 96 5813 Q (F0 m 206 ls []) := by
  obtain ⟨hx, hb, hr, hml, hown, hts, hX, hbl, hlocks, hK, hN, hIC, hIR, hC, hR, hne⟩ := E
  obtain ⟨hPC, hPR, hS⟩ := hw
  have hbA : ¬ (fun q : Nat => s.heap.size ≤ q) b := Nat.not_le.mpr hbl
  refine lv_aload_n hx hb dL_law_206 rfl (lv_at hl 2 rfl) ?_
  refine lv_aload_n hx hb dL_law_207 rfl (lv_at hl 3 rfl) ?_
  refine lv_iload_n hx hb dL_law_208 rfl (lv_at hl 0 rfl) ?_
  refine lv_iconst (v := 1) hx hb dL_law_209 (by decide) ?_
  refine lv_iadd hx hb dL_law_210 ?_
  refine va_sld hx hb hX hbl hbA hS h1 dL_law_211 ?_
  refine lv_aload_n hx hb dL_law_212 rfl (lv_at hl 3 rfl) ?_
  refine lv_iload_n hx hb dL_law_213 rfl (lv_at hl 0 rfl) ?_
  refine lv_iconst (v := 2) hx hb dL_law_214 (by decide) ?_
  refine lv_iadd hx hb dL_law_215 ?_
  refine va_sld hx hb hX hbl hbA hS h2 dL_law_216 ?_
  refine lv_aload_n hx hb dL_law_217 rfl (lv_at hl 3 rfl) ?_
  refine lv_iload_n hx hb dL_law_218 rfl (lv_at hl 0 rfl) ?_
  refine lv_iconst (v := 3) hx hb dL_law_219 (by decide) ?_
  refine lv_iadd hx hb dL_law_220 ?_
  refine va_sld hx hb hX hbl hbA hS h3 dL_law_221 ?_
  refine cC_Gi (Γ := (D, cs, aC)) (As := [.int (xs (x3 + 1).toNatClampNeg), .int (xs (x3 + 2).toNatClampNeg), .int (xs (x3 + 3).toNatClampNeg)]) (rest := []) ⟨hx, hb, hml, hown, hts⟩ (c_X9_deed l (D, cs, aC) hIC _ _ _ σC _ (s_deed hsim)) (cwV 3 hts gL_law_X9_deed rfl rfl rfl (by decide +kernel) ⟨Nat.le_of_ble_eq_true rfl, Nat.le_of_ble_eq_true rfl⟩) hK hN hPC hS hC rfl hl.1 rfl (Nat.le_of_ble_eq_true rfl) dL_law_222 ⟨Nat.le_of_ble_eq_true rfl, Nat.le_of_ble_eq_true rfl⟩ (fun r σC H locs hw hPC hk hS => ?_)
  have hPR := ft_keep hPR hk (fun i j hi hj e => hne j i hj hi e.symm)
  refine lv_aload_n hx hb dL_law_225 rfl (lv_at hl 1 rfl) ?_
  refine lv_aload_n hx hb dL_law_226 rfl (lv_at hl 3 rfl) ?_
  refine lv_iload_n hx hb dL_law_227 rfl (lv_at hl 0 rfl) ?_
  refine lv_iconst (v := 1) hx hb dL_law_228 (by decide) ?_
  refine lv_iadd hx hb dL_law_229 ?_
  refine va_sld hx hb hX hbl hbA hS h1 dL_law_230 ?_
  refine lv_aload_n hx hb dL_law_231 rfl (lv_at hl 3 rfl) ?_
  refine lv_iload_n hx hb dL_law_232 rfl (lv_at hl 0 rfl) ?_
  refine lv_iconst (v := 2) hx hb dL_law_233 (by decide) ?_
  refine lv_iadd hx hb dL_law_234 ?_
  refine va_sld hx hb hX hbl hbA hS h2 dL_law_235 ?_
  refine lv_aload_n hx hb dL_law_236 rfl (lv_at hl 3 rfl) ?_
  refine lv_iload_n hx hb dL_law_237 rfl (lv_at hl 0 rfl) ?_
  refine lv_iconst (v := 3) hx hb dL_law_238 (by decide) ?_
  refine lv_iadd hx hb dL_law_239 ?_
  refine va_sld hx hb hX hbl hbA hS h3 dL_law_240 ?_
  refine cR_Gi (Γ := (D, cs, aR)) (As := [.int (xs (x3 + 1).toNatClampNeg), .int (xs (x3 + 2).toNatClampNeg), .int (xs (x3 + 3).toNatClampNeg)]) (rest := [.int r]) ⟨hx, hb, hml, hown, hts⟩ (c_X10_deed l (D, cs, aR) hIR _ _ _ σR _ hw) (cwV 3 hts gL_law_X10_deed rfl rfl rfl (by decide +kernel) ⟨Nat.le_of_ble_eq_true rfl, Nat.le_of_ble_eq_true rfl⟩) hK hPR hS hR rfl hl.1 rfl (Nat.le_of_ble_eq_true rfl) dL_law_241 ⟨Nat.le_of_ble_eq_true rfl, Nat.le_of_ble_eq_true rfl⟩ (fun r2 σR H locs hw hPR hk hS => ?_)
  have hPC := ft_keep hPC hk hne
  exact lv_icmp_eq (tgt := 680) hx hb dL_law_244 (by decide) (fun _ => kk _ _ _ _ hw.2 ⟨hPC, hPR, hS⟩) (fun h => absurd hw.1 h)
set_option maxHeartbeats 4000000 in
set_option maxRecDepth 100000 in
theorem lc_draw {p : Program} {l : Launch} {e : Env} {s : State} {m : MethodId} {below : List Frame} {meth : Method} {c : Code} {b L : Nat} {xs : Nat → Int32} {D : va_G} {cs : ClassId × ClassId × ClassId × ClassId} {aC aR : Nat → Nat} {Q : State → Prop} (E : LE p s m meth c b L xs D cs aC aR) {x3 : Int32} {σC σR : ft_St} {H : Heap} {locs : List Loc} {ls : Array Slot} (hsim : SIM σC σR) (hw : LW s D cs aC aR σC σR H locs) (h1 : vp_in (x3 + 1) L) (h2 : vp_in (x3 + 2) L) (h3 : vp_in (x3 + 3) L) (hl : lv_has ls 4 [(3, .int x3), (2, .ref (aR 0)), (1, .ref (aC 0)), (0, .ref b)]) (kk : ∀ (σC σR : ft_St) (H : Heap) (locs : List Loc), SIM σC σR → LW s D cs aC aR σC σR H locs → W p l e room_1 s m #[Value.ref b] below meth c H locs 96 5813 Q (F0 m 680 ls [])) : W p l e room_1 s m #[Value.ref b] below meth c H locs 96 5813 Q (F0 m 249 ls []) := by
  obtain ⟨hx, hb, hr, hml, hown, hts, hX, hbl, hlocks, hK, hN, hIC, hIR, hC, hR, hne⟩ := E
  obtain ⟨hPC, hPR, hS⟩ := hw
  have hbA : ¬ (fun q : Nat => s.heap.size ≤ q) b := Nat.not_le.mpr hbl
  refine lv_aload_n hx hb dL_law_249 rfl (lv_at hl 2 rfl) ?_
  refine lv_aload_n hx hb dL_law_250 rfl (lv_at hl 3 rfl) ?_
  refine lv_iload_n hx hb dL_law_251 rfl (lv_at hl 0 rfl) ?_
  refine lv_iconst (v := 1) hx hb dL_law_252 (by decide) ?_
  refine lv_iadd hx hb dL_law_253 ?_
  refine va_sld hx hb hX hbl hbA hS h1 dL_law_254 ?_
  refine lv_aload_n hx hb dL_law_255 rfl (lv_at hl 3 rfl) ?_
  refine lv_iload_n hx hb dL_law_256 rfl (lv_at hl 0 rfl) ?_
  refine lv_iconst (v := 2) hx hb dL_law_257 (by decide) ?_
  refine lv_iadd hx hb dL_law_258 ?_
  refine va_sld hx hb hX hbl hbA hS h2 dL_law_259 ?_
  refine cC_Gi (Γ := (D, cs, aC)) (As := [.int (xs (x3 + 1).toNatClampNeg), .int (xs (x3 + 2).toNatClampNeg)]) (rest := []) ⟨hx, hb, hml, hown, hts⟩ (c_X9_draw l (D, cs, aC) hIC _ _ σC _ (s_draw hsim)) (cwV 2 hts gL_law_X9_draw rfl rfl rfl (by decide +kernel) ⟨Nat.le_of_ble_eq_true rfl, Nat.le_of_ble_eq_true rfl⟩) hK hN hPC hS hC rfl hl.1 rfl (Nat.le_of_ble_eq_true rfl) dL_law_260 ⟨Nat.le_of_ble_eq_true rfl, Nat.le_of_ble_eq_true rfl⟩ (fun r σC H locs hw hPC hk hS => ?_)
  have hPR := ft_keep hPR hk (fun i j hi hj e => hne j i hj hi e.symm)
  refine lv_aload_n hx hb dL_law_263 rfl (lv_at hl 1 rfl) ?_
  refine lv_aload_n hx hb dL_law_264 rfl (lv_at hl 3 rfl) ?_
  refine lv_iload_n hx hb dL_law_265 rfl (lv_at hl 0 rfl) ?_
  refine lv_iconst (v := 1) hx hb dL_law_266 (by decide) ?_
  refine lv_iadd hx hb dL_law_267 ?_
  refine va_sld hx hb hX hbl hbA hS h1 dL_law_268 ?_
  refine lv_aload_n hx hb dL_law_269 rfl (lv_at hl 3 rfl) ?_
  refine lv_iload_n hx hb dL_law_270 rfl (lv_at hl 0 rfl) ?_
  refine lv_iconst (v := 2) hx hb dL_law_271 (by decide) ?_
  refine lv_iadd hx hb dL_law_272 ?_
  refine va_sld hx hb hX hbl hbA hS h2 dL_law_273 ?_
  refine cR_Gi (Γ := (D, cs, aR)) (As := [.int (xs (x3 + 1).toNatClampNeg), .int (xs (x3 + 2).toNatClampNeg)]) (rest := [.int r]) ⟨hx, hb, hml, hown, hts⟩ (c_X10_draw l (D, cs, aR) hIR _ _ σR _ hw) (cwV 2 hts gL_law_X10_draw rfl rfl rfl (by decide +kernel) ⟨Nat.le_of_ble_eq_true rfl, Nat.le_of_ble_eq_true rfl⟩) hK hPR hS hR rfl hl.1 rfl (Nat.le_of_ble_eq_true rfl) dL_law_274 ⟨Nat.le_of_ble_eq_true rfl, Nat.le_of_ble_eq_true rfl⟩ (fun r2 σR H locs hw hPR hk hS => ?_)
  have hPC := ft_keep hPC hk hne
  exact lv_icmp_eq (tgt := 680) hx hb dL_law_277 (by decide) (fun _ => kk _ _ _ _ hw.2 ⟨hPC, hPR, hS⟩) (fun h => absurd hw.1 h)
set_option maxHeartbeats 4000000 in
set_option maxRecDepth 100000 in
theorem lc_anew {p : Program} {l : Launch} {e : Env} {s : State} {m : MethodId} {below : List Frame} {meth : Method} {c : Code} {b L : Nat} {xs : Nat → Int32} {D : va_G} {cs : ClassId × ClassId × ClassId × ClassId} {aC aR : Nat → Nat} {Q : State → Prop} (E : LE p s m meth c b L xs D cs aC aR) {x3 : Int32} {σC σR : ft_St} {H : Heap} {locs : List Loc} {ls : Array Slot} (hsim : SIM σC σR) (hw : LW s D cs aC aR σC σR H locs) (h1 : vp_in (x3 + 1) L) (h2 : vp_in (x3 + 2) L) (h3 : vp_in (x3 + 3) L) (hl : lv_has ls 4 [(3, .int x3), (2, .ref (aR 0)), (1, .ref (aC 0)), (0, .ref b)]) (kk : ∀ (σC σR : ft_St) (H : Heap) (locs : List Loc), SIM σC σR → LW s D cs aC aR σC σR H locs → W p l e room_1 s m #[Value.ref b] below meth c H locs 96 5813 Q (F0 m 680 ls [])) : W p l e room_1 s m #[Value.ref b] below meth c H locs 96 5813 Q (F0 m 282 ls []) := by
  obtain ⟨hx, hb, hr, hml, hown, hts, hX, hbl, hlocks, hK, hN, hIC, hIR, hC, hR, hne⟩ := E
  obtain ⟨hPC, hPR, hS⟩ := hw
  have hbA : ¬ (fun q : Nat => s.heap.size ≤ q) b := Nat.not_le.mpr hbl
  refine lv_aload_n hx hb dL_law_282 rfl (lv_at hl 2 rfl) ?_
  refine cC_Gi (Γ := (D, cs, aC)) (As := []) (rest := []) ⟨hx, hb, hml, hown, hts⟩ (c_X9_anew l (D, cs, aC) hIC  σC _ (s_anew hsim)) (cwV 0 hts gL_law_X9_anew rfl rfl rfl (by decide +kernel) ⟨Nat.le_of_ble_eq_true rfl, Nat.le_of_ble_eq_true rfl⟩) hK hN hPC hS hC rfl hl.1 rfl (Nat.le_of_ble_eq_true rfl) dL_law_283 ⟨Nat.le_of_ble_eq_true rfl, Nat.le_of_ble_eq_true rfl⟩ (fun r σC H locs hw hPC hk hS => ?_)
  have hPR := ft_keep hPR hk (fun i j hi hj e => hne j i hj hi e.symm)
  refine lv_aload_n hx hb dL_law_286 rfl (lv_at hl 1 rfl) ?_
  refine cR_Gi (Γ := (D, cs, aR)) (As := []) (rest := [.int r]) ⟨hx, hb, hml, hown, hts⟩ (c_X10_anew l (D, cs, aR) hIR  σR _ hw) (cwV 0 hts gL_law_X10_anew rfl rfl rfl (by decide +kernel) ⟨Nat.le_of_ble_eq_true rfl, Nat.le_of_ble_eq_true rfl⟩) hK hPR hS hR rfl hl.1 rfl (Nat.le_of_ble_eq_true rfl) dL_law_287 ⟨Nat.le_of_ble_eq_true rfl, Nat.le_of_ble_eq_true rfl⟩ (fun r2 σR H locs hw hPR hk hS => ?_)
  have hPC := ft_keep hPC hk hne
  exact lv_icmp_eq (tgt := 680) hx hb dL_law_290 (by decide) (fun _ => kk _ _ _ _ hw.2 ⟨hPC, hPR, hS⟩) (fun h => absurd hw.1 h)
set_option maxHeartbeats 4000000 in
set_option maxRecDepth 100000 in
theorem lc_of {p : Program} {l : Launch} {e : Env} {s : State} {m : MethodId} {below : List Frame} {meth : Method} {c : Code} {b L : Nat} {xs : Nat → Int32} {D : va_G} {cs : ClassId × ClassId × ClassId × ClassId} {aC aR : Nat → Nat} {Q : State → Prop} (E : LE p s m meth c b L xs D cs aC aR) {x3 : Int32} {σC σR : ft_St} {H : Heap} {locs : List Loc} {ls : Array Slot} (hsim : SIM σC σR) (hw : LW s D cs aC aR σC σR H locs) (h1 : vp_in (x3 + 1) L) (h2 : vp_in (x3 + 2) L) (h3 : vp_in (x3 + 3) L) (hl : lv_has ls 4 [(3, .int x3), (2, .ref (aR 0)), (1, .ref (aC 0)), (0, .ref b)]) (kk : ∀ (σC σR : ft_St) (H : Heap) (locs : List Loc), SIM σC σR → LW s D cs aC aR σC σR H locs → W p l e room_1 s m #[Value.ref b] below meth c H locs 96 5813 Q (F0 m 680 ls [])) : W p l e room_1 s m #[Value.ref b] below meth c H locs 96 5813 Q (F0 m 295 ls []) := by
  obtain ⟨hx, hb, hr, hml, hown, hts, hX, hbl, hlocks, hK, hN, hIC, hIR, hC, hR, hne⟩ := E
  obtain ⟨hPC, hPR, hS⟩ := hw
  have hbA : ¬ (fun q : Nat => s.heap.size ≤ q) b := Nat.not_le.mpr hbl
  refine lv_aload_n hx hb dL_law_295 rfl (lv_at hl 2 rfl) ?_
  refine lv_aload_n hx hb dL_law_296 rfl (lv_at hl 3 rfl) ?_
  refine lv_iload_n hx hb dL_law_297 rfl (lv_at hl 0 rfl) ?_
  refine lv_iconst (v := 1) hx hb dL_law_298 (by decide) ?_
  refine lv_iadd hx hb dL_law_299 ?_
  refine va_sld hx hb hX hbl hbA hS h1 dL_law_300 ?_
  refine lv_aload_n hx hb dL_law_301 rfl (lv_at hl 3 rfl) ?_
  refine lv_iload_n hx hb dL_law_302 rfl (lv_at hl 0 rfl) ?_
  refine lv_iconst (v := 2) hx hb dL_law_303 (by decide) ?_
  refine lv_iadd hx hb dL_law_304 ?_
  refine va_sld hx hb hX hbl hbA hS h2 dL_law_305 ?_
  refine cC_Gi (Γ := (D, cs, aC)) (As := [.int (xs (x3 + 1).toNatClampNeg), .int (xs (x3 + 2).toNatClampNeg)]) (rest := []) ⟨hx, hb, hml, hown, hts⟩ (c_X9_of l (D, cs, aC) hIC _ _ σC _ (s_of hsim)) (cwV 2 hts gL_law_X9_of rfl rfl rfl (by decide +kernel) ⟨Nat.le_of_ble_eq_true rfl, Nat.le_of_ble_eq_true rfl⟩) hK hN hPC hS hC rfl hl.1 rfl (Nat.le_of_ble_eq_true rfl) dL_law_306 ⟨Nat.le_of_ble_eq_true rfl, Nat.le_of_ble_eq_true rfl⟩ (fun r σC H locs hw hPC hk hS => ?_)
  have hPR := ft_keep hPR hk (fun i j hi hj e => hne j i hj hi e.symm)
  refine lv_aload_n hx hb dL_law_309 rfl (lv_at hl 1 rfl) ?_
  refine lv_aload_n hx hb dL_law_310 rfl (lv_at hl 3 rfl) ?_
  refine lv_iload_n hx hb dL_law_311 rfl (lv_at hl 0 rfl) ?_
  refine lv_iconst (v := 1) hx hb dL_law_312 (by decide) ?_
  refine lv_iadd hx hb dL_law_313 ?_
  refine va_sld hx hb hX hbl hbA hS h1 dL_law_314 ?_
  refine lv_aload_n hx hb dL_law_315 rfl (lv_at hl 3 rfl) ?_
  refine lv_iload_n hx hb dL_law_316 rfl (lv_at hl 0 rfl) ?_
  refine lv_iconst (v := 2) hx hb dL_law_317 (by decide) ?_
  refine lv_iadd hx hb dL_law_318 ?_
  refine va_sld hx hb hX hbl hbA hS h2 dL_law_319 ?_
  refine cR_Gi (Γ := (D, cs, aR)) (As := [.int (xs (x3 + 1).toNatClampNeg), .int (xs (x3 + 2).toNatClampNeg)]) (rest := [.int r]) ⟨hx, hb, hml, hown, hts⟩ (c_X10_of l (D, cs, aR) hIR _ _ σR _ hw) (cwV 2 hts gL_law_X10_of rfl rfl rfl (by decide +kernel) ⟨Nat.le_of_ble_eq_true rfl, Nat.le_of_ble_eq_true rfl⟩) hK hPR hS hR rfl hl.1 rfl (Nat.le_of_ble_eq_true rfl) dL_law_320 ⟨Nat.le_of_ble_eq_true rfl, Nat.le_of_ble_eq_true rfl⟩ (fun r2 σR H locs hw hPR hk hS => ?_)
  have hPC := ft_keep hPC hk hne
  exact lv_icmp_eq (tgt := 680) hx hb dL_law_323 (by decide) (fun _ => kk _ _ _ _ hw.2 ⟨hPC, hPR, hS⟩) (fun h => absurd hw.1 h)
set_option maxHeartbeats 4000000 in
set_option maxRecDepth 100000 in
theorem lc_sees {p : Program} {l : Launch} {e : Env} {s : State} {m : MethodId} {below : List Frame} {meth : Method} {c : Code} {b L : Nat} {xs : Nat → Int32} {D : va_G} {cs : ClassId × ClassId × ClassId × ClassId} {aC aR : Nat → Nat} {Q : State → Prop} (E : LE p s m meth c b L xs D cs aC aR) {x3 : Int32} {σC σR : ft_St} {H : Heap} {locs : List Loc} {ls : Array Slot} (hsim : SIM σC σR) (hw : LW s D cs aC aR σC σR H locs) (h1 : vp_in (x3 + 1) L) (h2 : vp_in (x3 + 2) L) (h3 : vp_in (x3 + 3) L) (hl : lv_has ls 4 [(3, .int x3), (2, .ref (aR 0)), (1, .ref (aC 0)), (0, .ref b)]) (kk : ∀ (σC σR : ft_St) (H : Heap) (locs : List Loc), SIM σC σR → LW s D cs aC aR σC σR H locs → W p l e room_1 s m #[Value.ref b] below meth c H locs 96 5813 Q (F0 m 680 ls [])) : W p l e room_1 s m #[Value.ref b] below meth c H locs 96 5813 Q (F0 m 328 ls []) := by
  obtain ⟨hx, hb, hr, hml, hown, hts, hX, hbl, hlocks, hK, hN, hIC, hIR, hC, hR, hne⟩ := E
  obtain ⟨hPC, hPR, hS⟩ := hw
  have hbA : ¬ (fun q : Nat => s.heap.size ≤ q) b := Nat.not_le.mpr hbl
  refine lv_aload_n hx hb dL_law_328 rfl (lv_at hl 2 rfl) ?_
  refine lv_aload_n hx hb dL_law_329 rfl (lv_at hl 3 rfl) ?_
  refine lv_iload_n hx hb dL_law_330 rfl (lv_at hl 0 rfl) ?_
  refine lv_iconst (v := 1) hx hb dL_law_331 (by decide) ?_
  refine lv_iadd hx hb dL_law_332 ?_
  refine va_sld hx hb hX hbl hbA hS h1 dL_law_333 ?_
  refine cC_Gi (Γ := (D, cs, aC)) (As := [.int (xs (x3 + 1).toNatClampNeg)]) (rest := []) ⟨hx, hb, hml, hown, hts⟩ (c_X9_sees l (D, cs, aC) hIC _ σC _ (s_sees hsim)) (cwV 1 hts gL_law_X9_sees rfl rfl rfl (by decide +kernel) ⟨Nat.le_of_ble_eq_true rfl, Nat.le_of_ble_eq_true rfl⟩) hK hN hPC hS hC rfl hl.1 rfl (Nat.le_of_ble_eq_true rfl) dL_law_334 ⟨Nat.le_of_ble_eq_true rfl, Nat.le_of_ble_eq_true rfl⟩ (fun r σC H locs hw hPC hk hS => ?_)
  have hPR := ft_keep hPR hk (fun i j hi hj e => hne j i hj hi e.symm)
  refine lv_aload_n hx hb dL_law_337 rfl (lv_at hl 1 rfl) ?_
  refine lv_aload_n hx hb dL_law_338 rfl (lv_at hl 3 rfl) ?_
  refine lv_iload_n hx hb dL_law_339 rfl (lv_at hl 0 rfl) ?_
  refine lv_iconst (v := 1) hx hb dL_law_340 (by decide) ?_
  refine lv_iadd hx hb dL_law_341 ?_
  refine va_sld hx hb hX hbl hbA hS h1 dL_law_342 ?_
  refine cR_Gi (Γ := (D, cs, aR)) (As := [.int (xs (x3 + 1).toNatClampNeg)]) (rest := [.int r]) ⟨hx, hb, hml, hown, hts⟩ (c_X10_sees l (D, cs, aR) hIR _ σR _ hw) (cwV 1 hts gL_law_X10_sees rfl rfl rfl (by decide +kernel) ⟨Nat.le_of_ble_eq_true rfl, Nat.le_of_ble_eq_true rfl⟩) hK hPR hS hR rfl hl.1 rfl (Nat.le_of_ble_eq_true rfl) dL_law_343 ⟨Nat.le_of_ble_eq_true rfl, Nat.le_of_ble_eq_true rfl⟩ (fun r2 σR H locs hw hPR hk hS => ?_)
  have hPC := ft_keep hPC hk hne
  exact lv_icmp_eq (tgt := 680) hx hb dL_law_346 (by decide) (fun _ => kk _ _ _ _ hw.2 ⟨hPC, hPR, hS⟩) (fun h => absurd hw.1 h)
set_option maxHeartbeats 4000000 in
set_option maxRecDepth 100000 in
theorem lc_restarts {p : Program} {l : Launch} {e : Env} {s : State} {m : MethodId} {below : List Frame} {meth : Method} {c : Code} {b L : Nat} {xs : Nat → Int32} {D : va_G} {cs : ClassId × ClassId × ClassId × ClassId} {aC aR : Nat → Nat} {Q : State → Prop} (E : LE p s m meth c b L xs D cs aC aR) {x3 : Int32} {σC σR : ft_St} {H : Heap} {locs : List Loc} {ls : Array Slot} (hsim : SIM σC σR) (hw : LW s D cs aC aR σC σR H locs) (h1 : vp_in (x3 + 1) L) (h2 : vp_in (x3 + 2) L) (h3 : vp_in (x3 + 3) L) (hl : lv_has ls 4 [(3, .int x3), (2, .ref (aR 0)), (1, .ref (aC 0)), (0, .ref b)]) (kk : ∀ (σC σR : ft_St) (H : Heap) (locs : List Loc), SIM σC σR → LW s D cs aC aR σC σR H locs → W p l e room_1 s m #[Value.ref b] below meth c H locs 96 5813 Q (F0 m 680 ls [])) : W p l e room_1 s m #[Value.ref b] below meth c H locs 96 5813 Q (F0 m 351 ls []) := by
  obtain ⟨hx, hb, hr, hml, hown, hts, hX, hbl, hlocks, hK, hN, hIC, hIR, hC, hR, hne⟩ := E
  obtain ⟨hPC, hPR, hS⟩ := hw
  have hbA : ¬ (fun q : Nat => s.heap.size ≤ q) b := Nat.not_le.mpr hbl
  refine lv_aload_n hx hb dL_law_351 rfl (lv_at hl 2 rfl) ?_
  refine cC_Gi (Γ := (D, cs, aC)) (As := []) (rest := []) ⟨hx, hb, hml, hown, hts⟩ (c_X9_restarts l (D, cs, aC) hIC  σC _ (s_restarts hsim)) (cwV 0 hts gL_law_X9_restarts rfl rfl rfl (by decide +kernel) ⟨Nat.le_of_ble_eq_true rfl, Nat.le_of_ble_eq_true rfl⟩) hK hN hPC hS hC rfl hl.1 rfl (Nat.le_of_ble_eq_true rfl) dL_law_352 ⟨Nat.le_of_ble_eq_true rfl, Nat.le_of_ble_eq_true rfl⟩ (fun r σC H locs hw hPC hk hS => ?_)
  have hPR := ft_keep hPR hk (fun i j hi hj e => hne j i hj hi e.symm)
  refine lv_aload_n hx hb dL_law_355 rfl (lv_at hl 1 rfl) ?_
  refine cR_Gi (Γ := (D, cs, aR)) (As := []) (rest := [.int r]) ⟨hx, hb, hml, hown, hts⟩ (c_X10_restarts l (D, cs, aR) hIR  σR _ hw) (cwV 0 hts gL_law_X10_restarts rfl rfl rfl (by decide +kernel) ⟨Nat.le_of_ble_eq_true rfl, Nat.le_of_ble_eq_true rfl⟩) hK hPR hS hR rfl hl.1 rfl (Nat.le_of_ble_eq_true rfl) dL_law_356 ⟨Nat.le_of_ble_eq_true rfl, Nat.le_of_ble_eq_true rfl⟩ (fun r2 σR H locs hw hPR hk hS => ?_)
  have hPC := ft_keep hPC hk hne
  exact lv_icmp_eq (tgt := 680) hx hb dL_law_359 (by decide) (fun _ => kk _ _ _ _ hw.2 ⟨hPC, hPR, hS⟩) (fun h => absurd hw.1 h)
