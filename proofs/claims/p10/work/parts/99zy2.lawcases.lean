set_option maxHeartbeats 4000000 in
set_option maxRecDepth 100000 in
theorem lw_c0 {p : Program} {l : Launch} {e : Env} {s : State} {m : MethodId} {below : List Frame} {meth : Method} {c : Code} {b L : Nat} {xs : Nat → Int32} {D : va_G} {cy : Nat → ClassId} (C0 : lw_At p s m meth c b L xs) (hL : L ≤ 2048) (hK : rx_K D vwCl (tyl cy) nwl ocl s) {i : Nat} (hi : i + 4 ≤ L) {AX AM : pm_A} {qx qm : Nat} {H : Heap} {locs : List Loc} (hR : lwR AX AM) (hJ : lwJ AX AM D cy s qx qm H locs) {ls : Array Slot} (hl : lv_has ls 4 [(3, .int (Int32.ofNat i)), (2, .ref qm), (1, .ref qx), (0, .ref b)]) (K : ∀ (AX AM : pm_A) (H : Heap) (locs : List Loc), lwR AX AM → lwJ AX AM D cy s qx qm H locs → W p l e room_1 s m #[Value.ref b] below meth c H locs 600000 7302250 (lw_Z below #[Value.ref b] s) (F0 m 942 ls [])) : W p l e room_1 s m #[Value.ref b] below meth c H locs 600000 7302250 (lw_Z below #[Value.ref b] s) (F0 m 164 ls []) := by
  obtain ⟨hx, hb, hr, hml, hown, hts, hX, hbl, hlocks, hgv⟩ := id C0
  have hbA : ¬ lA s b := Nat.not_le.mpr hbl
  have hS0 := hJ
  obtain ⟨_, _, _, _, _, _, _, _, _, _, _, _, _, _, hS0⟩ := hS0
  obtain ⟨sd, ks, hQ⟩ := hR.2.2.2.2.1
  obtain ⟨n1, r1, c1, ⟨⟨z1, e1⟩, q1⟩, b1⟩ := Cl.and (ox_table hR.1 (i32_r (ya xs i 1)) (i32_r (ya xs i 2))) (xtable_exq hR.1.1 hR.2.2.1.1 hR.2.2.2.1.1.1)
  obtain ⟨n2, r2, c2, ⟨⟨z2, e2⟩, q2⟩, b2⟩ := Cl.and (om_table hR.2.1 (i32_r (ya xs i 1)) (i32_r (ya xs i 2))) (table_ex hR.2.1.g _ _)
  have fx := fx_table c1 hR.2.2.1.1
  have fm := fm_table c2 (gK_of hR.2.1.g)
  have hRR : RR r1.2 r2.2 := (hR.2.2.1.kX fx.1 fx.2 rfl rfl rfl rfl).kM fm.2 rfl rfl
  have hst := dt_table hR.2.2.2.1 fx.2 b1 b2
  have hDD := hst.1
  have hCA : CA r1.2 := hQ.2.1.k fx.2 rfl
  have hRW : RW r1.2 r2.2 := hR.2.2.2.2.2.k fx.2 fm.2 rfl rfl
  have hXR : XR r1.2 r2.2 := hR.2.2.2.2.1.kk q1.1 q2.g fx.2 fm.2 rfl rfl rfl rfl
  refine lv_aload_n hx hb dL_law_164 rfl (lv_at hl 2 rfl) ?_
  refine lv_aload_n hx hb dL_law_165 rfl (lv_at hl 3 rfl) ?_
  refine lv_iload_n hx hb dL_law_166 rfl (lv_at hl 0 rfl) ?_
  refine lv_iconst (v := 1) hx hb dL_law_167 (by decide) ?_
  refine lv_iadd hx hb dL_law_168 ?_
  refine va_sld hx hb hX hbl hbA hS0 (lw_vin (k := 1) (j := 1) hL rfl (by omega) hi) dL_law_169 ?_
  refine W.eq (g2 := F0 m 170 ls [.int (ya xs i 1), .ref qx]) rfl ?_
  refine lv_aload_n hx hb dL_law_170 rfl (lv_at hl 3 rfl) ?_
  refine lv_iload_n hx hb dL_law_171 rfl (lv_at hl 0 rfl) ?_
  refine lv_iconst (v := 2) hx hb dL_law_172 (by decide) ?_
  refine lv_iadd hx hb dL_law_173 ?_
  refine va_sld hx hb hX hbl hbA hS0 (lw_vin (k := 2) (j := 2) hL rfl (by omega) hi) dL_law_174 ?_
  refine W.eq (g2 := F0 m 175 ls [.int (ya xs i 2), .int (ya xs i 1), .ref qx]) rfl ?_
  refine W.eq (g2 := F0 m 175 ls ((Value.ref qx :: List.map Value.int [ya xs i 1, ya xs i 2]).reverse ++ [])) rfl ?_
  refine lw_cX lk_175 hz_111 C0 hK hJ [ya xs i 1, ya xs i 2] hl.1 rfl (Nat.le_of_ble_eq_true rfl) c1 (Or.inl rfl) e1 (fun v1 H1 locs1 hv1 hJ1 => ?_)
  obtain ⟨y1, hy1, hz1⟩ := lwV_i hv1 e1
  subst hy1
  show W p l e room_1 s m #[Value.ref b] below meth c H1 locs1 600000 7302250 (lw_Z below #[Value.ref b] s) (F0 m 178 ls [.int y1])
  have hS1 := hJ1
  obtain ⟨_, _, _, _, _, _, _, _, _, _, _, _, _, _, hS1⟩ := hS1
  refine lv_pop hx hb dL_law_178 rfl ?_
  refine lv_aload_n hx hb dL_law_179 rfl (lv_at hl 1 rfl) ?_
  refine lv_aload_n hx hb dL_law_180 rfl (lv_at hl 3 rfl) ?_
  refine lv_iload_n hx hb dL_law_181 rfl (lv_at hl 0 rfl) ?_
  refine lv_iconst (v := 1) hx hb dL_law_182 (by decide) ?_
  refine lv_iadd hx hb dL_law_183 ?_
  refine va_sld hx hb hX hbl hbA hS1 (lw_vin (k := 1) (j := 1) hL rfl (by omega) hi) dL_law_184 ?_
  refine W.eq (g2 := F0 m 185 ls [.int (ya xs i 1), .ref qm]) rfl ?_
  refine lv_aload_n hx hb dL_law_185 rfl (lv_at hl 3 rfl) ?_
  refine lv_iload_n hx hb dL_law_186 rfl (lv_at hl 0 rfl) ?_
  refine lv_iconst (v := 2) hx hb dL_law_187 (by decide) ?_
  refine lv_iadd hx hb dL_law_188 ?_
  refine va_sld hx hb hX hbl hbA hS1 (lw_vin (k := 2) (j := 2) hL rfl (by omega) hi) dL_law_189 ?_
  refine W.eq (g2 := F0 m 190 ls [.int (ya xs i 2), .int (ya xs i 1), .ref qm]) rfl ?_
  refine W.eq (g2 := F0 m 190 ls ((Value.ref qm :: List.map Value.int [ya xs i 1, ya xs i 2]).reverse ++ [])) rfl ?_
  refine lw_cM lk_190 hz_187 C0 hK hJ1 [ya xs i 1, ya xs i 2] hl.1 rfl (Nat.le_of_ble_eq_true rfl) c2 (Or.inl rfl) e2 (fun v2 H2 locs2 hv2 hJ2 => ?_)
  obtain ⟨y2, hy2, hz2⟩ := lwV_i hv2 e2
  subst hy2
  show W p l e room_1 s m #[Value.ref b] below meth c H2 locs2 600000 7302250 (lw_Z below #[Value.ref b] s) (F0 m 193 ls [.int y2])
  refine lv_pop hx hb dL_law_193 rfl ?_
  refine lv_goto (tgt := 942) hx hb dL_law_194 (by decide) ?_
  exact K _ _ _ _ ⟨q1, q2, hRR, hDD, hXR, hRW⟩ hJ2
set_option maxHeartbeats 4000000 in
set_option maxRecDepth 100000 in
theorem lw_c1 {p : Program} {l : Launch} {e : Env} {s : State} {m : MethodId} {below : List Frame} {meth : Method} {c : Code} {b L : Nat} {xs : Nat → Int32} {D : va_G} {cy : Nat → ClassId} (C0 : lw_At p s m meth c b L xs) (hL : L ≤ 2048) (hK : rx_K D vwCl (tyl cy) nwl ocl s) {i : Nat} (hi : i + 4 ≤ L) {AX AM : pm_A} {qx qm : Nat} {H : Heap} {locs : List Loc} (hR : lwR AX AM) (hJ : lwJ AX AM D cy s qx qm H locs) {ls : Array Slot} (hl : lv_has ls 4 [(3, .int (Int32.ofNat i)), (2, .ref qm), (1, .ref qx), (0, .ref b)]) (K : ∀ (AX AM : pm_A) (H : Heap) (locs : List Loc), lwR AX AM → lwJ AX AM D cy s qx qm H locs → W p l e room_1 s m #[Value.ref b] below meth c H locs 600000 7302250 (lw_Z below #[Value.ref b] s) (F0 m 942 ls [])) : W p l e room_1 s m #[Value.ref b] below meth c H locs 600000 7302250 (lw_Z below #[Value.ref b] s) (F0 m 197 ls []) := by
  obtain ⟨hx, hb, hr, hml, hown, hts, hX, hbl, hlocks, hgv⟩ := id C0
  have hbA : ¬ lA s b := Nat.not_le.mpr hbl
  have hS0 := hJ
  obtain ⟨_, _, _, _, _, _, _, _, _, _, _, _, _, _, hS0⟩ := hS0
  obtain ⟨sd, ks, hQ⟩ := hR.2.2.2.2.1
  obtain ⟨n1, r1, c1, ⟨⟨z1, e1⟩, q1⟩, b1⟩ := Cl.and (ox_arrows hR.1 (i32_r (ya xs i 1)) (i32_r (ya xs i 2)) (i32_r (ya xs i 3))) (xarrows_exq hR.1.1)
  obtain ⟨n2, r2, c2, ⟨⟨z2, e2⟩, q2⟩, b2⟩ := Cl.and (om_arrows hR.2.1 (i32_r (ya xs i 1)) (i32_r (ya xs i 2)) (i32_r (ya xs i 3))) (marrows_exq hR.2.1.g)
  have fx := fx_arrows c1 hR.2.2.1.1
  have fm := fm_arrows c2 (gK_of hR.2.1.g)
  have hRR : RR r1.2 r2.2 := (hR.2.2.1.kX fx.1 fx.2 rfl rfl rfl rfl).kM fm.2 rfl rfl
  have hst := dt_arrows hR.2.2.2.1 b1 b2
  have hDD := hst.1
  have hCA : CA r1.2 := hQ.2.1.k fx.2 rfl
  have hRW : RW r1.2 r2.2 := hR.2.2.2.2.2.k fx.2 fm.2 rfl rfl
  have hXR : XR r1.2 r2.2 := hR.2.2.2.2.1.kk q1.1 q2.g fx.2 fm.2 rfl rfl rfl rfl
  refine lv_aload_n hx hb dL_law_197 rfl (lv_at hl 2 rfl) ?_
  refine lv_aload_n hx hb dL_law_198 rfl (lv_at hl 3 rfl) ?_
  refine lv_iload_n hx hb dL_law_199 rfl (lv_at hl 0 rfl) ?_
  refine lv_iconst (v := 1) hx hb dL_law_200 (by decide) ?_
  refine lv_iadd hx hb dL_law_201 ?_
  refine va_sld hx hb hX hbl hbA hS0 (lw_vin (k := 1) (j := 1) hL rfl (by omega) hi) dL_law_202 ?_
  refine W.eq (g2 := F0 m 203 ls [.int (ya xs i 1), .ref qx]) rfl ?_
  refine lv_aload_n hx hb dL_law_203 rfl (lv_at hl 3 rfl) ?_
  refine lv_iload_n hx hb dL_law_204 rfl (lv_at hl 0 rfl) ?_
  refine lv_iconst (v := 2) hx hb dL_law_205 (by decide) ?_
  refine lv_iadd hx hb dL_law_206 ?_
  refine va_sld hx hb hX hbl hbA hS0 (lw_vin (k := 2) (j := 2) hL rfl (by omega) hi) dL_law_207 ?_
  refine W.eq (g2 := F0 m 208 ls [.int (ya xs i 2), .int (ya xs i 1), .ref qx]) rfl ?_
  refine lv_aload_n hx hb dL_law_208 rfl (lv_at hl 3 rfl) ?_
  refine lv_iload_n hx hb dL_law_209 rfl (lv_at hl 0 rfl) ?_
  refine lv_iconst (v := 3) hx hb dL_law_210 (by decide) ?_
  refine lv_iadd hx hb dL_law_211 ?_
  refine va_sld hx hb hX hbl hbA hS0 (lw_vin (k := 3) (j := 3) hL rfl (by omega) hi) dL_law_212 ?_
  refine W.eq (g2 := F0 m 213 ls [.int (ya xs i 3), .int (ya xs i 2), .int (ya xs i 1), .ref qx]) rfl ?_
  refine W.eq (g2 := F0 m 213 ls ((Value.ref qx :: List.map Value.int [ya xs i 1, ya xs i 2, ya xs i 3]).reverse ++ [])) rfl ?_
  refine lw_cX lk_213 hz_84 C0 hK hJ [ya xs i 1, ya xs i 2, ya xs i 3] hl.1 rfl (Nat.le_of_ble_eq_true rfl) c1 (Or.inl rfl) e1 (fun v1 H1 locs1 hv1 hJ1 => ?_)
  obtain ⟨y1, hy1, hz1⟩ := lwV_i hv1 e1
  subst hy1
  show W p l e room_1 s m #[Value.ref b] below meth c H1 locs1 600000 7302250 (lw_Z below #[Value.ref b] s) (F0 m 216 ls [.int y1])
  have hS1 := hJ1
  obtain ⟨_, _, _, _, _, _, _, _, _, _, _, _, _, _, hS1⟩ := hS1
  refine lv_pop hx hb dL_law_216 rfl ?_
  refine lv_aload_n hx hb dL_law_217 rfl (lv_at hl 1 rfl) ?_
  refine lv_aload_n hx hb dL_law_218 rfl (lv_at hl 3 rfl) ?_
  refine lv_iload_n hx hb dL_law_219 rfl (lv_at hl 0 rfl) ?_
  refine lv_iconst (v := 1) hx hb dL_law_220 (by decide) ?_
  refine lv_iadd hx hb dL_law_221 ?_
  refine va_sld hx hb hX hbl hbA hS1 (lw_vin (k := 1) (j := 1) hL rfl (by omega) hi) dL_law_222 ?_
  refine W.eq (g2 := F0 m 223 ls [.int (ya xs i 1), .ref qm]) rfl ?_
  refine lv_aload_n hx hb dL_law_223 rfl (lv_at hl 3 rfl) ?_
  refine lv_iload_n hx hb dL_law_224 rfl (lv_at hl 0 rfl) ?_
  refine lv_iconst (v := 2) hx hb dL_law_225 (by decide) ?_
  refine lv_iadd hx hb dL_law_226 ?_
  refine va_sld hx hb hX hbl hbA hS1 (lw_vin (k := 2) (j := 2) hL rfl (by omega) hi) dL_law_227 ?_
  refine W.eq (g2 := F0 m 228 ls [.int (ya xs i 2), .int (ya xs i 1), .ref qm]) rfl ?_
  refine lv_aload_n hx hb dL_law_228 rfl (lv_at hl 3 rfl) ?_
  refine lv_iload_n hx hb dL_law_229 rfl (lv_at hl 0 rfl) ?_
  refine lv_iconst (v := 3) hx hb dL_law_230 (by decide) ?_
  refine lv_iadd hx hb dL_law_231 ?_
  refine va_sld hx hb hX hbl hbA hS1 (lw_vin (k := 3) (j := 3) hL rfl (by omega) hi) dL_law_232 ?_
  refine W.eq (g2 := F0 m 233 ls [.int (ya xs i 3), .int (ya xs i 2), .int (ya xs i 1), .ref qm]) rfl ?_
  refine W.eq (g2 := F0 m 233 ls ((Value.ref qm :: List.map Value.int [ya xs i 1, ya xs i 2, ya xs i 3]).reverse ++ [])) rfl ?_
  refine lw_cM lk_233 hz_126 C0 hK hJ1 [ya xs i 1, ya xs i 2, ya xs i 3] hl.1 rfl (Nat.le_of_ble_eq_true rfl) c2 (Or.inl rfl) e2 (fun v2 H2 locs2 hv2 hJ2 => ?_)
  obtain ⟨y2, hy2, hz2⟩ := lwV_i hv2 e2
  subst hy2
  show W p l e room_1 s m #[Value.ref b] below meth c H2 locs2 600000 7302250 (lw_Z below #[Value.ref b] s) (F0 m 236 ls [.int y2])
  refine lv_pop hx hb dL_law_236 rfl ?_
  refine lv_goto (tgt := 942) hx hb dL_law_237 (by decide) ?_
  exact K _ _ _ _ ⟨q1, q2, hRR, hDD, hXR, hRW⟩ hJ2
set_option maxHeartbeats 4000000 in
set_option maxRecDepth 100000 in
theorem lw_c2 {p : Program} {l : Launch} {e : Env} {s : State} {m : MethodId} {below : List Frame} {meth : Method} {c : Code} {b L : Nat} {xs : Nat → Int32} {D : va_G} {cy : Nat → ClassId} (C0 : lw_At p s m meth c b L xs) (hL : L ≤ 2048) (hK : rx_K D vwCl (tyl cy) nwl ocl s) {i : Nat} (hi : i + 4 ≤ L) {AX AM : pm_A} {qx qm : Nat} {H : Heap} {locs : List Loc} (hR : lwR AX AM) (hJ : lwJ AX AM D cy s qx qm H locs) {ls : Array Slot} (hl : lv_has ls 4 [(3, .int (Int32.ofNat i)), (2, .ref qm), (1, .ref qx), (0, .ref b)]) (K : ∀ (AX AM : pm_A) (H : Heap) (locs : List Loc), lwR AX AM → lwJ AX AM D cy s qx qm H locs → W p l e room_1 s m #[Value.ref b] below meth c H locs 600000 7302250 (lw_Z below #[Value.ref b] s) (F0 m 942 ls [])) : W p l e room_1 s m #[Value.ref b] below meth c H locs 600000 7302250 (lw_Z below #[Value.ref b] s) (F0 m 240 ls []) := by
  obtain ⟨hx, hb, hr, hml, hown, hts, hX, hbl, hlocks, hgv⟩ := id C0
  have hbA : ¬ lA s b := Nat.not_le.mpr hbl
  have hS0 := hJ
  obtain ⟨_, _, _, _, _, _, _, _, _, _, _, _, _, _, hS0⟩ := hS0
  obtain ⟨sd, ks, hQ⟩ := hR.2.2.2.2.1
  obtain ⟨n1, r1, c1, ⟨⟨z1, e1⟩, q1⟩, b1⟩ := Cl.and (ox_begin hR.1 ) (xbegin_exq hQ.1.1 hQ.2.1 hR.2.2.1.1 hQ.1.2.1 hR.2.2.2.1.1.1 hR.2.2.2.1.2.1 (hR.2.2.2.1.b9 hR.2.1))
  obtain ⟨n2, r2, c2, ⟨⟨z2, e2⟩, q2⟩, b2⟩ := Cl.and (om_begin hR.2.1 ) (mbegin_ex3 hR.2.1)
  have fx := fx_begin c1 hR.2.2.1.1
  have fm := fm_begin c2 (gK_of hR.2.1.g)
  have hRR : RR r1.2 r2.2 := (hR.2.2.1.kX fx.1 fx.2 rfl rfl rfl rfl).kM fm.2 rfl rfl
  have hDD : DT r1.2 r2.2 := (hR.2.2.2.1.kX (fx_begin c1 hR.2.2.1.1).2 rfl rfl rfl rfl rfl).kM (fm_begin c2 (gK_of hR.2.1.g)).2 rfl rfl rfl
  have hCA : CA r1.2 := hQ.2.1.k fx.2 rfl
  have hxr := xr_begin hR.2.2.2.1 hR.2.1 hQ hCA b1 b2
  have hXR : XR r1.2 r2.2 := hxr.1
  have hRW : RW r1.2 r2.2 := hR.2.2.2.2.2.k fx.2 fm.2 rfl rfl
  refine lv_aload_n hx hb dL_law_240 rfl (lv_at hl 2 rfl) ?_
  refine W.eq (g2 := F0 m 241 ls ((Value.ref qx :: List.map Value.int []).reverse ++ [])) rfl ?_
  refine lw_cX lk_241 hz_87 C0 hK hJ [] hl.1 rfl (Nat.le_of_ble_eq_true rfl) c1 (Or.inl rfl) e1 (fun v1 H1 locs1 hv1 hJ1 => ?_)
  obtain ⟨y1, hy1, hz1⟩ := lwV_i hv1 e1
  subst hy1
  show W p l e room_1 s m #[Value.ref b] below meth c H1 locs1 600000 7302250 (lw_Z below #[Value.ref b] s) (F0 m 244 ls [.int y1])
  have hS1 := hJ1
  obtain ⟨_, _, _, _, _, _, _, _, _, _, _, _, _, _, hS1⟩ := hS1
  refine lv_pop hx hb dL_law_244 rfl ?_
  refine lv_aload_n hx hb dL_law_245 rfl (lv_at hl 1 rfl) ?_
  refine W.eq (g2 := F0 m 246 ls ((Value.ref qm :: List.map Value.int []).reverse ++ [])) rfl ?_
  refine lw_cM lk_246 hz_129 C0 hK hJ1 [] hl.1 rfl (Nat.le_of_ble_eq_true rfl) c2 (Or.inl rfl) e2 (fun v2 H2 locs2 hv2 hJ2 => ?_)
  obtain ⟨y2, hy2, hz2⟩ := lwV_i hv2 e2
  subst hy2
  show W p l e room_1 s m #[Value.ref b] below meth c H2 locs2 600000 7302250 (lw_Z below #[Value.ref b] s) (F0 m 249 ls [.int y2])
  refine lv_pop hx hb dL_law_249 rfl ?_
  refine lv_goto (tgt := 942) hx hb dL_law_250 (by decide) ?_
  exact K _ _ _ _ ⟨q1, q2, hRR, hDD, hXR, hRW⟩ hJ2
set_option maxHeartbeats 4000000 in
set_option maxRecDepth 100000 in
theorem lw_c3 {p : Program} {l : Launch} {e : Env} {s : State} {m : MethodId} {below : List Frame} {meth : Method} {c : Code} {b L : Nat} {xs : Nat → Int32} {D : va_G} {cy : Nat → ClassId} (C0 : lw_At p s m meth c b L xs) (hL : L ≤ 2048) (hK : rx_K D vwCl (tyl cy) nwl ocl s) {i : Nat} (hi : i + 4 ≤ L) {AX AM : pm_A} {qx qm : Nat} {H : Heap} {locs : List Loc} (hR : lwR AX AM) (hJ : lwJ AX AM D cy s qx qm H locs) {ls : Array Slot} (hl : lv_has ls 4 [(3, .int (Int32.ofNat i)), (2, .ref qm), (1, .ref qx), (0, .ref b)]) (K : ∀ (AX AM : pm_A) (H : Heap) (locs : List Loc), lwR AX AM → lwJ AX AM D cy s qx qm H locs → W p l e room_1 s m #[Value.ref b] below meth c H locs 600000 7302250 (lw_Z below #[Value.ref b] s) (F0 m 942 ls [])) : W p l e room_1 s m #[Value.ref b] below meth c H locs 600000 7302250 (lw_Z below #[Value.ref b] s) (F0 m 253 ls []) := by
  obtain ⟨hx, hb, hr, hml, hown, hts, hX, hbl, hlocks, hgv⟩ := id C0
  have hbA : ¬ lA s b := Nat.not_le.mpr hbl
  have hS0 := hJ
  obtain ⟨_, _, _, _, _, _, _, _, _, _, _, _, _, _, hS0⟩ := hS0
  obtain ⟨sd, ks, hQ⟩ := hR.2.2.2.2.1
  obtain ⟨n1, r1, c1, ⟨z1, e1⟩, q1⟩ := ox_size hR.1 (i32_r (ya xs i 1))
  obtain ⟨n2, r2, c2, ⟨z2, e2⟩, q2⟩ := om_size hR.2.1 (i32_r (ya xs i 1))
  have fx := fx_size c1 hR.2.2.1.1
  have fm := fm_size c2 (gK_of hR.2.1.g)
  have hRR : RR r1.2 r2.2 := (hR.2.2.1.kX fx.1 fx.2 rfl rfl rfl rfl).kM fm.2 rfl rfl
  have hDD : DT r1.2 r2.2 := (hR.2.2.2.1.kX (fx_size c1 hR.2.2.1.1).2 rfl rfl rfl rfl rfl).kM (fm_size c2 (gK_of hR.2.1.g)).2 rfl rfl rfl
  have hCA : CA r1.2 := hQ.2.1.k fx.2 rfl
  have hRW : RW r1.2 r2.2 := hR.2.2.2.2.2.k fx.2 fm.2 rfl rfl
  have hXR : XR r1.2 r2.2 := hR.2.2.2.2.1.kk q1.1 q2.g fx.2 fm.2 rfl rfl rfl rfl
  refine lv_aload_n hx hb dL_law_253 rfl (lv_at hl 2 rfl) ?_
  refine lv_aload_n hx hb dL_law_254 rfl (lv_at hl 3 rfl) ?_
  refine lv_iload_n hx hb dL_law_255 rfl (lv_at hl 0 rfl) ?_
  refine lv_iconst (v := 1) hx hb dL_law_256 (by decide) ?_
  refine lv_iadd hx hb dL_law_257 ?_
  refine va_sld hx hb hX hbl hbA hS0 (lw_vin (k := 1) (j := 1) hL rfl (by omega) hi) dL_law_258 ?_
  refine W.eq (g2 := F0 m 259 ls [.int (ya xs i 1), .ref qx]) rfl ?_
  refine W.eq (g2 := F0 m 259 ls ((Value.ref qx :: List.map Value.int [ya xs i 1]).reverse ++ [])) rfl ?_
  refine lw_cX lk_259 hz_108 C0 hK hJ [ya xs i 1] hl.1 rfl (Nat.le_of_ble_eq_true rfl) c1 (Or.inl rfl) e1 (fun v1 H1 locs1 hv1 hJ1 => ?_)
  obtain ⟨y1, hy1, hz1⟩ := lwV_i hv1 e1
  subst hy1
  show W p l e room_1 s m #[Value.ref b] below meth c H1 locs1 600000 7302250 (lw_Z below #[Value.ref b] s) (F0 m 262 ls [.int y1])
  have hS1 := hJ1
  obtain ⟨_, _, _, _, _, _, _, _, _, _, _, _, _, _, hS1⟩ := hS1
  refine lv_pop hx hb dL_law_262 rfl ?_
  refine lv_aload_n hx hb dL_law_263 rfl (lv_at hl 1 rfl) ?_
  refine lv_aload_n hx hb dL_law_264 rfl (lv_at hl 3 rfl) ?_
  refine lv_iload_n hx hb dL_law_265 rfl (lv_at hl 0 rfl) ?_
  refine lv_iconst (v := 1) hx hb dL_law_266 (by decide) ?_
  refine lv_iadd hx hb dL_law_267 ?_
  refine va_sld hx hb hX hbl hbA hS1 (lw_vin (k := 1) (j := 1) hL rfl (by omega) hi) dL_law_268 ?_
  refine W.eq (g2 := F0 m 269 ls [.int (ya xs i 1), .ref qm]) rfl ?_
  refine W.eq (g2 := F0 m 269 ls ((Value.ref qm :: List.map Value.int [ya xs i 1]).reverse ++ [])) rfl ?_
  refine lw_cM lk_269 hz_184 C0 hK hJ1 [ya xs i 1] hl.1 rfl (Nat.le_of_ble_eq_true rfl) c2 (Or.inl rfl) e2 (fun v2 H2 locs2 hv2 hJ2 => ?_)
  obtain ⟨y2, hy2, hz2⟩ := lwV_i hv2 e2
  subst hy2
  show W p l e room_1 s m #[Value.ref b] below meth c H2 locs2 600000 7302250 (lw_Z below #[Value.ref b] s) (F0 m 272 ls [.int y2])
  refine lv_pop hx hb dL_law_272 rfl ?_
  refine lv_goto (tgt := 942) hx hb dL_law_273 (by decide) ?_
  exact K _ _ _ _ ⟨q1, q2, hRR, hDD, hXR, hRW⟩ hJ2
set_option maxHeartbeats 4000000 in
set_option maxRecDepth 100000 in
theorem lw_c4 {p : Program} {l : Launch} {e : Env} {s : State} {m : MethodId} {below : List Frame} {meth : Method} {c : Code} {b L : Nat} {xs : Nat → Int32} {D : va_G} {cy : Nat → ClassId} (C0 : lw_At p s m meth c b L xs) (hL : L ≤ 2048) (hK : rx_K D vwCl (tyl cy) nwl ocl s) {i : Nat} (hi : i + 4 ≤ L) {AX AM : pm_A} {qx qm : Nat} {H : Heap} {locs : List Loc} (hR : lwR AX AM) (hJ : lwJ AX AM D cy s qx qm H locs) {ls : Array Slot} (hl : lv_has ls 4 [(3, .int (Int32.ofNat i)), (2, .ref qm), (1, .ref qx), (0, .ref b)]) (K : ∀ (AX AM : pm_A) (H : Heap) (locs : List Loc), lwR AX AM → lwJ AX AM D cy s qx qm H locs → W p l e room_1 s m #[Value.ref b] below meth c H locs 600000 7302250 (lw_Z below #[Value.ref b] s) (F0 m 942 ls [])) : W p l e room_1 s m #[Value.ref b] below meth c H locs 600000 7302250 (lw_Z below #[Value.ref b] s) (F0 m 276 ls []) := by
  obtain ⟨hx, hb, hr, hml, hown, hts, hX, hbl, hlocks, hgv⟩ := id C0
  have hbA : ¬ lA s b := Nat.not_le.mpr hbl
  have hS0 := hJ
  obtain ⟨_, _, _, _, _, _, _, _, _, _, _, _, _, _, hS0⟩ := hS0
  obtain ⟨sd, ks, hQ⟩ := hR.2.2.2.2.1
  obtain ⟨n1, r1, c1, ⟨⟨z1, e1⟩, q1⟩, b1⟩ := Cl.and (ox_turn hR.1 (i32_r (ya xs i 1))) (turn_exX hQ.1.1 hQ.1.2.1 (i32_r _))
  obtain ⟨n2, r2, c2, ⟨⟨z2, e2⟩, q2⟩, b2⟩ := Cl.and (om_turn hR.2.1 (i32_r (ya xs i 1))) (mturn_exq hQ.1.2.2.1 _)
  have fx := fx_turn c1 hR.2.2.1.1
  have fm := fm_turn c2 (gK_of hR.2.1.g)
  have hRR : RR r1.2 r2.2 := (hR.2.2.1.kX fx.1 fx.2 rfl rfl rfl rfl).kM fm.2 rfl rfl
  have hDD : DT r1.2 r2.2 := (hR.2.2.2.1.kX (fx_turn c1 hR.2.2.1.1).2 rfl rfl rfl rfl rfl).kM (fm_turn c2 (gK_of hR.2.1.g)).2 rfl rfl rfl
  have hCA : CA r1.2 := hQ.2.1.k fx.2 rfl
  have hXR : XR r1.2 r2.2 := xr_turn hQ hCA fx.2 fm.2 rfl rfl b1 b2
  have hRW : RW r1.2 r2.2 := hR.2.2.2.2.2.k fx.2 fm.2 rfl rfl
  refine lv_aload_n hx hb dL_law_276 rfl (lv_at hl 2 rfl) ?_
  refine lv_aload_n hx hb dL_law_277 rfl (lv_at hl 3 rfl) ?_
  refine lv_iload_n hx hb dL_law_278 rfl (lv_at hl 0 rfl) ?_
  refine lv_iconst (v := 1) hx hb dL_law_279 (by decide) ?_
  refine lv_iadd hx hb dL_law_280 ?_
  refine va_sld hx hb hX hbl hbA hS0 (lw_vin (k := 1) (j := 1) hL rfl (by omega) hi) dL_law_281 ?_
  refine W.eq (g2 := F0 m 282 ls [.int (ya xs i 1), .ref qx]) rfl ?_
  refine W.eq (g2 := F0 m 282 ls ((Value.ref qx :: List.map Value.int [ya xs i 1]).reverse ++ [])) rfl ?_
  refine lw_cX lk_282 hz_115 C0 hK hJ [ya xs i 1] hl.1 rfl (Nat.le_of_ble_eq_true rfl) c1 (Or.inl rfl) e1 (fun v1 H1 locs1 hv1 hJ1 => ?_)
  obtain ⟨y1, hy1, hz1⟩ := lwV_i hv1 e1
  subst hy1
  show W p l e room_1 s m #[Value.ref b] below meth c H1 locs1 600000 7302250 (lw_Z below #[Value.ref b] s) (F0 m 285 ls [.int y1])
  have hS1 := hJ1
  obtain ⟨_, _, _, _, _, _, _, _, _, _, _, _, _, _, hS1⟩ := hS1
  refine lv_pop hx hb dL_law_285 rfl ?_
  refine lv_aload_n hx hb dL_law_286 rfl (lv_at hl 1 rfl) ?_
  refine lv_aload_n hx hb dL_law_287 rfl (lv_at hl 3 rfl) ?_
  refine lv_iload_n hx hb dL_law_288 rfl (lv_at hl 0 rfl) ?_
  refine lv_iconst (v := 1) hx hb dL_law_289 (by decide) ?_
  refine lv_iadd hx hb dL_law_290 ?_
  refine va_sld hx hb hX hbl hbA hS1 (lw_vin (k := 1) (j := 1) hL rfl (by omega) hi) dL_law_291 ?_
  refine W.eq (g2 := F0 m 292 ls [.int (ya xs i 1), .ref qm]) rfl ?_
  refine W.eq (g2 := F0 m 292 ls ((Value.ref qm :: List.map Value.int [ya xs i 1]).reverse ++ [])) rfl ?_
  refine lw_cM lk_292 hz_198 C0 hK hJ1 [ya xs i 1] hl.1 rfl (Nat.le_of_ble_eq_true rfl) c2 (Or.inl rfl) e2 (fun v2 H2 locs2 hv2 hJ2 => ?_)
  obtain ⟨y2, hy2, hz2⟩ := lwV_i hv2 e2
  subst hy2
  show W p l e room_1 s m #[Value.ref b] below meth c H2 locs2 600000 7302250 (lw_Z below #[Value.ref b] s) (F0 m 295 ls [.int y2])
  refine lv_pop hx hb dL_law_295 rfl ?_
  refine lv_goto (tgt := 942) hx hb dL_law_296 (by decide) ?_
  exact K _ _ _ _ ⟨q1, q2, hRR, hDD, hXR, hRW⟩ hJ2
set_option maxHeartbeats 4000000 in
set_option maxRecDepth 100000 in
theorem lw_c5 {p : Program} {l : Launch} {e : Env} {s : State} {m : MethodId} {below : List Frame} {meth : Method} {c : Code} {b L : Nat} {xs : Nat → Int32} {D : va_G} {cy : Nat → ClassId} (C0 : lw_At p s m meth c b L xs) (hL : L ≤ 2048) (hK : rx_K D vwCl (tyl cy) nwl ocl s) {i : Nat} (hi : i + 4 ≤ L) {AX AM : pm_A} {qx qm : Nat} {H : Heap} {locs : List Loc} (hR : lwR AX AM) (hJ : lwJ AX AM D cy s qx qm H locs) {ls : Array Slot} (hl : lv_has ls 4 [(3, .int (Int32.ofNat i)), (2, .ref qm), (1, .ref qx), (0, .ref b)]) (K : ∀ (AX AM : pm_A) (H : Heap) (locs : List Loc), lwR AX AM → lwJ AX AM D cy s qx qm H locs → W p l e room_1 s m #[Value.ref b] below meth c H locs 600000 7302250 (lw_Z below #[Value.ref b] s) (F0 m 942 ls [])) : W p l e room_1 s m #[Value.ref b] below meth c H locs 600000 7302250 (lw_Z below #[Value.ref b] s) (F0 m 299 ls []) := by
  obtain ⟨hx, hb, hr, hml, hown, hts, hX, hbl, hlocks, hgv⟩ := id C0
  have hbA : ¬ lA s b := Nat.not_le.mpr hbl
  have hS0 := hJ
  obtain ⟨_, _, _, _, _, _, _, _, _, _, _, _, _, _, hS0⟩ := hS0
  obtain ⟨sd, ks, hQ⟩ := hR.2.2.2.2.1
  obtain ⟨n1, r1, c1, ⟨⟨z1, e1⟩, q1⟩, b1⟩ := Cl.and (ox_back hR.1 ) (xback_c hQ)
  obtain ⟨n2, r2, c2, ⟨⟨z2, e2⟩, q2⟩, b2⟩ := Cl.and (om_back hR.2.1 ) (mback_c hQ)
  have fx := fx_back c1 hR.2.2.1.1
  have fm := fm_back c2 (gK_of hR.2.1.g)
  have hRR : RR r1.2 r2.2 := (hR.2.2.1.kX fx.1 fx.2 rfl rfl rfl rfl).kM fm.2 rfl rfl
  have hDD : DT r1.2 r2.2 := (hR.2.2.2.1.kX (fx_back c1 hR.2.2.1.1).2 rfl rfl rfl rfl rfl).kM (fm_back c2 (gK_of hR.2.1.g)).2 rfl rfl rfl
  have hCA : CA r1.2 := hQ.2.1.k fx.2 rfl
  have hxr := xr_back hQ hCA fx.2 fm.2 rfl rfl b1 b2
  have hXR : XR r1.2 r2.2 := hxr.1
  have hRW : RW r1.2 r2.2 := hR.2.2.2.2.2.k fx.2 fm.2 rfl rfl
  refine lv_aload_n hx hb dL_law_299 rfl (lv_at hl 2 rfl) ?_
  refine W.eq (g2 := F0 m 300 ls ((Value.ref qx :: List.map Value.int []).reverse ++ [])) rfl ?_
  refine lw_cX lk_300 hz_86 C0 hK hJ [] hl.1 rfl (Nat.le_of_ble_eq_true rfl) c1 (Or.inl rfl) e1 (fun v1 H1 locs1 hv1 hJ1 => ?_)
  obtain ⟨y1, hy1, hz1⟩ := lwV_i hv1 e1
  subst hy1
  show W p l e room_1 s m #[Value.ref b] below meth c H1 locs1 600000 7302250 (lw_Z below #[Value.ref b] s) (F0 m 303 ls [.int y1])
  have hS1 := hJ1
  obtain ⟨_, _, _, _, _, _, _, _, _, _, _, _, _, _, hS1⟩ := hS1
  refine lv_pop hx hb dL_law_303 rfl ?_
  refine lv_aload_n hx hb dL_law_304 rfl (lv_at hl 1 rfl) ?_
  refine W.eq (g2 := F0 m 305 ls ((Value.ref qm :: List.map Value.int []).reverse ++ [])) rfl ?_
  refine lw_cM lk_305 hz_128 C0 hK hJ1 [] hl.1 rfl (Nat.le_of_ble_eq_true rfl) c2 (Or.inl rfl) e2 (fun v2 H2 locs2 hv2 hJ2 => ?_)
  obtain ⟨y2, hy2, hz2⟩ := lwV_i hv2 e2
  subst hy2
  show W p l e room_1 s m #[Value.ref b] below meth c H2 locs2 600000 7302250 (lw_Z below #[Value.ref b] s) (F0 m 308 ls [.int y2])
  refine lv_pop hx hb dL_law_308 rfl ?_
  refine lv_goto (tgt := 942) hx hb dL_law_309 (by decide) ?_
  exact K _ _ _ _ ⟨q1, q2, hRR, hDD, hXR, hRW⟩ hJ2
set_option maxHeartbeats 4000000 in
set_option maxRecDepth 100000 in
theorem lw_c6 {p : Program} {l : Launch} {e : Env} {s : State} {m : MethodId} {below : List Frame} {meth : Method} {c : Code} {b L : Nat} {xs : Nat → Int32} {D : va_G} {cy : Nat → ClassId} (C0 : lw_At p s m meth c b L xs) (hL : L ≤ 2048) (hK : rx_K D vwCl (tyl cy) nwl ocl s) {i : Nat} (hi : i + 4 ≤ L) {AX AM : pm_A} {qx qm : Nat} {H : Heap} {locs : List Loc} (hR : lwR AX AM) (hJ : lwJ AX AM D cy s qx qm H locs) {ls : Array Slot} (hl : lv_has ls 4 [(3, .int (Int32.ofNat i)), (2, .ref qm), (1, .ref qx), (0, .ref b)]) (K : ∀ (AX AM : pm_A) (H : Heap) (locs : List Loc), lwR AX AM → lwJ AX AM D cy s qx qm H locs → W p l e room_1 s m #[Value.ref b] below meth c H locs 600000 7302250 (lw_Z below #[Value.ref b] s) (F0 m 942 ls [])) : W p l e room_1 s m #[Value.ref b] below meth c H locs 600000 7302250 (lw_Z below #[Value.ref b] s) (F0 m 312 ls []) := by
  obtain ⟨hx, hb, hr, hml, hown, hts, hX, hbl, hlocks, hgv⟩ := id C0
  have hbA : ¬ lA s b := Nat.not_le.mpr hbl
  have hS0 := hJ
  obtain ⟨_, _, _, _, _, _, _, _, _, _, _, _, _, _, hS0⟩ := hS0
  obtain ⟨sd, ks, hQ⟩ := hR.2.2.2.2.1
  obtain ⟨n1, r1, c1, ⟨z1, e1⟩, q1⟩ := ox_b hR.1 (i32_r (ya xs i 1)) (i32_r (ya xs i 2))
  obtain ⟨n2, r2, c2, ⟨z2, e2⟩, q2⟩ := om_b hR.2.1 (i32_r (ya xs i 1)) (i32_r (ya xs i 2))
  have fx := fx_b c1 hR.2.2.1.1
  have fm := fm_b c2 (gK_of hR.2.1.g)
  have hRR : RR r1.2 r2.2 := (hR.2.2.1.kX fx.1 fx.2 rfl rfl rfl rfl).kM fm.2 rfl rfl
  have hDD : DT r1.2 r2.2 := (hR.2.2.2.1.kX (fx_b c1 hR.2.2.1.1).2 rfl rfl rfl rfl rfl).kM (fm_b c2 (gK_of hR.2.1.g)).2 rfl rfl rfl
  have hCA : CA r1.2 := hQ.2.1.k fx.2 rfl
  have hRW : RW r1.2 r2.2 := hR.2.2.2.2.2.k fx.2 fm.2 rfl rfl
  have hXR : XR r1.2 r2.2 := hR.2.2.2.2.1.kk q1.1 q2.g fx.2 fm.2 rfl rfl rfl rfl
  refine lv_aload_n hx hb dL_law_312 rfl (lv_at hl 2 rfl) ?_
  refine lv_aload_n hx hb dL_law_313 rfl (lv_at hl 3 rfl) ?_
  refine lv_iload_n hx hb dL_law_314 rfl (lv_at hl 0 rfl) ?_
  refine lv_iconst (v := 1) hx hb dL_law_315 (by decide) ?_
  refine lv_iadd hx hb dL_law_316 ?_
  refine va_sld hx hb hX hbl hbA hS0 (lw_vin (k := 1) (j := 1) hL rfl (by omega) hi) dL_law_317 ?_
  refine W.eq (g2 := F0 m 318 ls [.int (ya xs i 1), .ref qx]) rfl ?_
  refine lv_aload_n hx hb dL_law_318 rfl (lv_at hl 3 rfl) ?_
  refine lv_iload_n hx hb dL_law_319 rfl (lv_at hl 0 rfl) ?_
  refine lv_iconst (v := 2) hx hb dL_law_320 (by decide) ?_
  refine lv_iadd hx hb dL_law_321 ?_
  refine va_sld hx hb hX hbl hbA hS0 (lw_vin (k := 2) (j := 2) hL rfl (by omega) hi) dL_law_322 ?_
  refine W.eq (g2 := F0 m 323 ls [.int (ya xs i 2), .int (ya xs i 1), .ref qx]) rfl ?_
  refine W.eq (g2 := F0 m 323 ls ((Value.ref qx :: List.map Value.int [ya xs i 1, ya xs i 2]).reverse ++ [])) rfl ?_
  refine lw_cX lk_323 hz_85 C0 hK hJ [ya xs i 1, ya xs i 2] hl.1 rfl (Nat.le_of_ble_eq_true rfl) c1 (Or.inl rfl) e1 (fun v1 H1 locs1 hv1 hJ1 => ?_)
  obtain ⟨y1, hy1, hz1⟩ := lwV_i hv1 e1
  subst hy1
  show W p l e room_1 s m #[Value.ref b] below meth c H1 locs1 600000 7302250 (lw_Z below #[Value.ref b] s) (F0 m 326 ls [.int y1])
  have hS1 := hJ1
  obtain ⟨_, _, _, _, _, _, _, _, _, _, _, _, _, _, hS1⟩ := hS1
  refine lv_pop hx hb dL_law_326 rfl ?_
  refine lv_aload_n hx hb dL_law_327 rfl (lv_at hl 1 rfl) ?_
  refine lv_aload_n hx hb dL_law_328 rfl (lv_at hl 3 rfl) ?_
  refine lv_iload_n hx hb dL_law_329 rfl (lv_at hl 0 rfl) ?_
  refine lv_iconst (v := 1) hx hb dL_law_330 (by decide) ?_
  refine lv_iadd hx hb dL_law_331 ?_
  refine va_sld hx hb hX hbl hbA hS1 (lw_vin (k := 1) (j := 1) hL rfl (by omega) hi) dL_law_332 ?_
  refine W.eq (g2 := F0 m 333 ls [.int (ya xs i 1), .ref qm]) rfl ?_
  refine lv_aload_n hx hb dL_law_333 rfl (lv_at hl 3 rfl) ?_
  refine lv_iload_n hx hb dL_law_334 rfl (lv_at hl 0 rfl) ?_
  refine lv_iconst (v := 2) hx hb dL_law_335 (by decide) ?_
  refine lv_iadd hx hb dL_law_336 ?_
  refine va_sld hx hb hX hbl hbA hS1 (lw_vin (k := 2) (j := 2) hL rfl (by omega) hi) dL_law_337 ?_
  refine W.eq (g2 := F0 m 338 ls [.int (ya xs i 2), .int (ya xs i 1), .ref qm]) rfl ?_
  refine W.eq (g2 := F0 m 338 ls ((Value.ref qm :: List.map Value.int [ya xs i 1, ya xs i 2]).reverse ++ [])) rfl ?_
  refine lw_cM lk_338 hz_127 C0 hK hJ1 [ya xs i 1, ya xs i 2] hl.1 rfl (Nat.le_of_ble_eq_true rfl) c2 (Or.inl rfl) e2 (fun v2 H2 locs2 hv2 hJ2 => ?_)
  obtain ⟨y2, hy2, hz2⟩ := lwV_i hv2 e2
  subst hy2
  show W p l e room_1 s m #[Value.ref b] below meth c H2 locs2 600000 7302250 (lw_Z below #[Value.ref b] s) (F0 m 341 ls [.int y2])
  refine lv_pop hx hb dL_law_341 rfl ?_
  refine lv_goto (tgt := 942) hx hb dL_law_342 (by decide) ?_
  exact K _ _ _ _ ⟨q1, q2, hRR, hDD, hXR, hRW⟩ hJ2
set_option maxHeartbeats 4000000 in
set_option maxRecDepth 100000 in
theorem lw_c7 {p : Program} {l : Launch} {e : Env} {s : State} {m : MethodId} {below : List Frame} {meth : Method} {c : Code} {b L : Nat} {xs : Nat → Int32} {D : va_G} {cy : Nat → ClassId} (C0 : lw_At p s m meth c b L xs) (hL : L ≤ 2048) (hK : rx_K D vwCl (tyl cy) nwl ocl s) {i : Nat} (hi : i + 4 ≤ L) {AX AM : pm_A} {qx qm : Nat} {H : Heap} {locs : List Loc} (hR : lwR AX AM) (hJ : lwJ AX AM D cy s qx qm H locs) {ls : Array Slot} (hl : lv_has ls 4 [(3, .int (Int32.ofNat i)), (2, .ref qm), (1, .ref qx), (0, .ref b)]) (K : ∀ (AX AM : pm_A) (H : Heap) (locs : List Loc), lwR AX AM → lwJ AX AM D cy s qx qm H locs → W p l e room_1 s m #[Value.ref b] below meth c H locs 600000 7302250 (lw_Z below #[Value.ref b] s) (F0 m 942 ls [])) : W p l e room_1 s m #[Value.ref b] below meth c H locs 600000 7302250 (lw_Z below #[Value.ref b] s) (F0 m 345 ls []) := by
  obtain ⟨hx, hb, hr, hml, hown, hts, hX, hbl, hlocks, hgv⟩ := id C0
  have hbA : ¬ lA s b := Nat.not_le.mpr hbl
  have hS0 := hJ
  obtain ⟨_, _, _, _, _, _, _, _, _, _, _, _, _, _, hS0⟩ := hS0
  obtain ⟨sd, ks, hQ⟩ := hR.2.2.2.2.1
  obtain ⟨n1, r1, c1, ⟨z1, e1⟩, q1⟩ := ox_terms hR.1 (i32_r (ya xs i 1))
  obtain ⟨n2, r2, c2, ⟨z2, e2⟩, q2⟩ := om_terms hR.2.1 (i32_r (ya xs i 1))
  have fx := fx_terms c1 hR.2.2.1.1
  have fm := fm_terms c2 (gK_of hR.2.1.g)
  have hRR : RR r1.2 r2.2 := (hR.2.2.1.kX fx.1 fx.2 rfl rfl rfl rfl).kM fm.2 rfl rfl
  have hDD : DT r1.2 r2.2 := (hR.2.2.2.1.kX (fx_terms c1 hR.2.2.1.1).2 rfl rfl rfl rfl rfl).kM (fm_terms c2 (gK_of hR.2.1.g)).2 rfl rfl rfl
  have hCA : CA r1.2 := hQ.2.1.k fx.2 rfl
  have hRW : RW r1.2 r2.2 := hR.2.2.2.2.2.k fx.2 fm.2 rfl rfl
  have hXR : XR r1.2 r2.2 := hR.2.2.2.2.1.kk q1.1 q2.g fx.2 fm.2 rfl rfl rfl rfl
  refine lv_aload_n hx hb dL_law_345 rfl (lv_at hl 2 rfl) ?_
  refine lv_aload_n hx hb dL_law_346 rfl (lv_at hl 3 rfl) ?_
  refine lv_iload_n hx hb dL_law_347 rfl (lv_at hl 0 rfl) ?_
  refine lv_iconst (v := 1) hx hb dL_law_348 (by decide) ?_
  refine lv_iadd hx hb dL_law_349 ?_
  refine va_sld hx hb hX hbl hbA hS0 (lw_vin (k := 1) (j := 1) hL rfl (by omega) hi) dL_law_350 ?_
  refine W.eq (g2 := F0 m 351 ls [.int (ya xs i 1), .ref qx]) rfl ?_
  refine W.eq (g2 := F0 m 351 ls ((Value.ref qx :: List.map Value.int [ya xs i 1]).reverse ++ [])) rfl ?_
  refine lw_cX lk_351 hz_114 C0 hK hJ [ya xs i 1] hl.1 rfl (Nat.le_of_ble_eq_true rfl) c1 (Or.inl rfl) e1 (fun v1 H1 locs1 hv1 hJ1 => ?_)
  obtain ⟨y1, hy1, hz1⟩ := lwV_i hv1 e1
  subst hy1
  show W p l e room_1 s m #[Value.ref b] below meth c H1 locs1 600000 7302250 (lw_Z below #[Value.ref b] s) (F0 m 354 ls [.int y1])
  have hS1 := hJ1
  obtain ⟨_, _, _, _, _, _, _, _, _, _, _, _, _, _, hS1⟩ := hS1
  refine lv_pop hx hb dL_law_354 rfl ?_
  refine lv_aload_n hx hb dL_law_355 rfl (lv_at hl 1 rfl) ?_
  refine lv_aload_n hx hb dL_law_356 rfl (lv_at hl 3 rfl) ?_
  refine lv_iload_n hx hb dL_law_357 rfl (lv_at hl 0 rfl) ?_
  refine lv_iconst (v := 1) hx hb dL_law_358 (by decide) ?_
  refine lv_iadd hx hb dL_law_359 ?_
  refine va_sld hx hb hX hbl hbA hS1 (lw_vin (k := 1) (j := 1) hL rfl (by omega) hi) dL_law_360 ?_
  refine W.eq (g2 := F0 m 361 ls [.int (ya xs i 1), .ref qm]) rfl ?_
  refine W.eq (g2 := F0 m 361 ls ((Value.ref qm :: List.map Value.int [ya xs i 1]).reverse ++ [])) rfl ?_
  refine lw_cM lk_361 hz_194 C0 hK hJ1 [ya xs i 1] hl.1 rfl (Nat.le_of_ble_eq_true rfl) c2 (Or.inl rfl) e2 (fun v2 H2 locs2 hv2 hJ2 => ?_)
  obtain ⟨y2, hy2, hz2⟩ := lwV_i hv2 e2
  subst hy2
  show W p l e room_1 s m #[Value.ref b] below meth c H2 locs2 600000 7302250 (lw_Z below #[Value.ref b] s) (F0 m 364 ls [.int y2])
  refine lv_pop hx hb dL_law_364 rfl ?_
  refine lv_goto (tgt := 942) hx hb dL_law_365 (by decide) ?_
  exact K _ _ _ _ ⟨q1, q2, hRR, hDD, hXR, hRW⟩ hJ2
set_option maxHeartbeats 4000000 in
set_option maxRecDepth 100000 in
theorem lw_c8 {p : Program} {l : Launch} {e : Env} {s : State} {m : MethodId} {below : List Frame} {meth : Method} {c : Code} {b L : Nat} {xs : Nat → Int32} {D : va_G} {cy : Nat → ClassId} (C0 : lw_At p s m meth c b L xs) (hL : L ≤ 2048) (hK : rx_K D vwCl (tyl cy) nwl ocl s) {i : Nat} (hi : i + 4 ≤ L) {AX AM : pm_A} {qx qm : Nat} {H : Heap} {locs : List Loc} (hR : lwR AX AM) (hJ : lwJ AX AM D cy s qx qm H locs) {ls : Array Slot} (hl : lv_has ls 4 [(3, .int (Int32.ofNat i)), (2, .ref qm), (1, .ref qx), (0, .ref b)]) (K : ∀ (AX AM : pm_A) (H : Heap) (locs : List Loc), lwR AX AM → lwJ AX AM D cy s qx qm H locs → W p l e room_1 s m #[Value.ref b] below meth c H locs 600000 7302250 (lw_Z below #[Value.ref b] s) (F0 m 942 ls [])) : W p l e room_1 s m #[Value.ref b] below meth c H locs 600000 7302250 (lw_Z below #[Value.ref b] s) (F0 m 368 ls []) := by
  obtain ⟨hx, hb, hr, hml, hown, hts, hX, hbl, hlocks, hgv⟩ := id C0
  have hbA : ¬ lA s b := Nat.not_le.mpr hbl
  have hS0 := hJ
  obtain ⟨_, _, _, _, _, _, _, _, _, _, _, _, _, _, hS0⟩ := hS0
  obtain ⟨sd, ks, hQ⟩ := hR.2.2.2.2.1
  obtain ⟨n1, r1, c1, ⟨⟨z1, e1⟩, q1⟩, b1⟩ := Cl.and (ox_term hR.1 (i32_r (ya xs i 1)) (i32_r (ya xs i 2)) (i32_r (ya xs i 3))) (xterm_ex (w := AM 0 7 + AM 0 8) hQ.1.1 (i32_r _) (fun hi => (hQ.1.at hi.1 hi.2).1.2))
  obtain ⟨n2, r2, c2, ⟨⟨z2, e2⟩, q2⟩, b2⟩ := Cl.and (om_term hR.2.1 (i32_r (ya xs i 1)) (i32_r (ya xs i 2)) (i32_r (ya xs i 3))) (mterm_ex hR.2.1.g)
  have ez : z1 = z2 := by
    have := (rl_term hQ.1 b1 b2).2.2
    rw [e1, e2] at this
    cases this
    rfl
  have fx := fx_term c1 hR.2.2.1.1
  have fm := fm_term c2 (gK_of hR.2.1.g)
  have hRR : RR r1.2 r2.2 := (hR.2.2.1.kX fx.1 fx.2 rfl rfl rfl rfl).kM fm.2 rfl rfl
  have hDD : DT r1.2 r2.2 := (hR.2.2.2.1.kX (fx_term c1 hR.2.2.1.1).2 rfl rfl rfl rfl rfl).kM (fm_term c2 (gK_of hR.2.1.g)).2 rfl rfl rfl
  have hCA : CA r1.2 := hQ.2.1.k fx.2 rfl
  have hRW : RW r1.2 r2.2 := hR.2.2.2.2.2.k fx.2 fm.2 rfl rfl
  have hXR : XR r1.2 r2.2 := hR.2.2.2.2.1.kk q1.1 q2.g fx.2 fm.2 rfl rfl rfl rfl
  refine lv_aload_n hx hb dL_law_368 rfl (lv_at hl 2 rfl) ?_
  refine lv_aload_n hx hb dL_law_369 rfl (lv_at hl 3 rfl) ?_
  refine lv_iload_n hx hb dL_law_370 rfl (lv_at hl 0 rfl) ?_
  refine lv_iconst (v := 1) hx hb dL_law_371 (by decide) ?_
  refine lv_iadd hx hb dL_law_372 ?_
  refine va_sld hx hb hX hbl hbA hS0 (lw_vin (k := 1) (j := 1) hL rfl (by omega) hi) dL_law_373 ?_
  refine W.eq (g2 := F0 m 374 ls [.int (ya xs i 1), .ref qx]) rfl ?_
  refine lv_aload_n hx hb dL_law_374 rfl (lv_at hl 3 rfl) ?_
  refine lv_iload_n hx hb dL_law_375 rfl (lv_at hl 0 rfl) ?_
  refine lv_iconst (v := 2) hx hb dL_law_376 (by decide) ?_
  refine lv_iadd hx hb dL_law_377 ?_
  refine va_sld hx hb hX hbl hbA hS0 (lw_vin (k := 2) (j := 2) hL rfl (by omega) hi) dL_law_378 ?_
  refine W.eq (g2 := F0 m 379 ls [.int (ya xs i 2), .int (ya xs i 1), .ref qx]) rfl ?_
  refine lv_aload_n hx hb dL_law_379 rfl (lv_at hl 3 rfl) ?_
  refine lv_iload_n hx hb dL_law_380 rfl (lv_at hl 0 rfl) ?_
  refine lv_iconst (v := 3) hx hb dL_law_381 (by decide) ?_
  refine lv_iadd hx hb dL_law_382 ?_
  refine va_sld hx hb hX hbl hbA hS0 (lw_vin (k := 3) (j := 3) hL rfl (by omega) hi) dL_law_383 ?_
  refine W.eq (g2 := F0 m 384 ls [.int (ya xs i 3), .int (ya xs i 2), .int (ya xs i 1), .ref qx]) rfl ?_
  refine W.eq (g2 := F0 m 384 ls ((Value.ref qx :: List.map Value.int [ya xs i 1, ya xs i 2, ya xs i 3]).reverse ++ [])) rfl ?_
  refine lw_cX lk_384 hz_113 C0 hK hJ [ya xs i 1, ya xs i 2, ya xs i 3] hl.1 rfl (Nat.le_of_ble_eq_true rfl) c1 (Or.inr rfl) e1 (fun v1 H1 locs1 hv1 hJ1 => ?_)
  obtain ⟨y1, hy1, hz1⟩ := lwV_l hv1 e1
  subst hy1
  show W p l e room_1 s m #[Value.ref b] below meth c H1 locs1 600000 7302250 (lw_Z below #[Value.ref b] s) (F0 m 387 ls [.long y1])
  have hS1 := hJ1
  obtain ⟨_, _, _, _, _, _, _, _, _, _, _, _, _, _, hS1⟩ := hS1
  refine lv_aload_n hx hb dL_law_387 rfl (lv_at hl 1 rfl) ?_
  refine lv_aload_n hx hb dL_law_388 rfl (lv_at hl 3 rfl) ?_
  refine lv_iload_n hx hb dL_law_389 rfl (lv_at hl 0 rfl) ?_
  refine lv_iconst (v := 1) hx hb dL_law_390 (by decide) ?_
  refine lv_iadd hx hb dL_law_391 ?_
  refine va_sld hx hb hX hbl hbA hS1 (lw_vin (k := 1) (j := 1) hL rfl (by omega) hi) dL_law_392 ?_
  refine W.eq (g2 := F0 m 393 ls [.int (ya xs i 1), .ref qm, .long y1]) rfl ?_
  refine lv_aload_n hx hb dL_law_393 rfl (lv_at hl 3 rfl) ?_
  refine lv_iload_n hx hb dL_law_394 rfl (lv_at hl 0 rfl) ?_
  refine lv_iconst (v := 2) hx hb dL_law_395 (by decide) ?_
  refine lv_iadd hx hb dL_law_396 ?_
  refine va_sld hx hb hX hbl hbA hS1 (lw_vin (k := 2) (j := 2) hL rfl (by omega) hi) dL_law_397 ?_
  refine W.eq (g2 := F0 m 398 ls [.int (ya xs i 2), .int (ya xs i 1), .ref qm, .long y1]) rfl ?_
  refine lv_aload_n hx hb dL_law_398 rfl (lv_at hl 3 rfl) ?_
  refine lv_iload_n hx hb dL_law_399 rfl (lv_at hl 0 rfl) ?_
  refine lv_iconst (v := 3) hx hb dL_law_400 (by decide) ?_
  refine lv_iadd hx hb dL_law_401 ?_
  refine va_sld hx hb hX hbl hbA hS1 (lw_vin (k := 3) (j := 3) hL rfl (by omega) hi) dL_law_402 ?_
  refine W.eq (g2 := F0 m 403 ls [.int (ya xs i 3), .int (ya xs i 2), .int (ya xs i 1), .ref qm, .long y1]) rfl ?_
  refine W.eq (g2 := F0 m 403 ls ((Value.ref qm :: List.map Value.int [ya xs i 1, ya xs i 2, ya xs i 3]).reverse ++ [.long y1])) rfl ?_
  refine lw_cM lk_403 hz_193 C0 hK hJ1 [ya xs i 1, ya xs i 2, ya xs i 3] hl.1 rfl (Nat.le_of_ble_eq_true rfl) c2 (Or.inr rfl) e2 (fun v2 H2 locs2 hv2 hJ2 => ?_)
  obtain ⟨y2, hy2, hz2⟩ := lwV_l hv2 e2
  subst hy2
  show W p l e room_1 s m #[Value.ref b] below meth c H2 locs2 600000 7302250 (lw_Z below #[Value.ref b] s) (F0 m 406 ls [.long y2, .long y1])
  have ey : y1 = y2 := Int64.toInt_inj.mp (by rw [hz1, hz2, ez])
  subst ey
  refine W.lcmp hx hb dL_law_406 ?_
  refine lv_if_eq (tgt := 942) hx hb dL_law_407 (by decide) (fun _ => ?_) (fun h => absurd (lw_cmp0 y1) h)
  exact K _ _ _ _ ⟨q1, q2, hRR, hDD, hXR, hRW⟩ hJ2
set_option maxHeartbeats 4000000 in
set_option maxRecDepth 100000 in
theorem lw_c9 {p : Program} {l : Launch} {e : Env} {s : State} {m : MethodId} {below : List Frame} {meth : Method} {c : Code} {b L : Nat} {xs : Nat → Int32} {D : va_G} {cy : Nat → ClassId} (C0 : lw_At p s m meth c b L xs) (hL : L ≤ 2048) (hK : rx_K D vwCl (tyl cy) nwl ocl s) {i : Nat} (hi : i + 4 ≤ L) {AX AM : pm_A} {qx qm : Nat} {H : Heap} {locs : List Loc} (hR : lwR AX AM) (hJ : lwJ AX AM D cy s qx qm H locs) {ls : Array Slot} (hl : lv_has ls 4 [(3, .int (Int32.ofNat i)), (2, .ref qm), (1, .ref qx), (0, .ref b)]) (K : ∀ (AX AM : pm_A) (H : Heap) (locs : List Loc), lwR AX AM → lwJ AX AM D cy s qx qm H locs → W p l e room_1 s m #[Value.ref b] below meth c H locs 600000 7302250 (lw_Z below #[Value.ref b] s) (F0 m 942 ls [])) : W p l e room_1 s m #[Value.ref b] below meth c H locs 600000 7302250 (lw_Z below #[Value.ref b] s) (F0 m 412 ls []) := by
  obtain ⟨hx, hb, hr, hml, hown, hts, hX, hbl, hlocks, hgv⟩ := id C0
  have hbA : ¬ lA s b := Nat.not_le.mpr hbl
  have hS0 := hJ
  obtain ⟨_, _, _, _, _, _, _, _, _, _, _, _, _, _, hS0⟩ := hS0
  obtain ⟨sd, ks, hQ⟩ := hR.2.2.2.2.1
  obtain ⟨n1, r1, c1, ⟨z1, e1⟩, q1⟩ := ox_least hR.1 (i32_r (ya xs i 1)) (i32_r (ya xs i 2))
  obtain ⟨n2, r2, c2, ⟨z2, e2⟩, q2⟩ := om_least hR.2.1 (i32_r (ya xs i 1)) (i32_r (ya xs i 2))
  have fx := fx_least c1 hR.2.2.1.1
  have fm := fm_least c2 (gK_of hR.2.1.g)
  have hRR : RR r1.2 r2.2 := (hR.2.2.1.kX fx.1 fx.2 rfl rfl rfl rfl).kM fm.2 rfl rfl
  have hDD : DT r1.2 r2.2 := (hR.2.2.2.1.kX (fx_least c1 hR.2.2.1.1).2 rfl rfl rfl rfl rfl).kM (fm_least c2 (gK_of hR.2.1.g)).2 rfl rfl rfl
  have hCA : CA r1.2 := hQ.2.1.k fx.2 rfl
  have hRW : RW r1.2 r2.2 := hR.2.2.2.2.2.k fx.2 fm.2 rfl rfl
  have hXR : XR r1.2 r2.2 := hR.2.2.2.2.1.kk q1.1 q2.g fx.2 fm.2 rfl rfl rfl rfl
  refine lv_aload_n hx hb dL_law_412 rfl (lv_at hl 2 rfl) ?_
  refine lv_aload_n hx hb dL_law_413 rfl (lv_at hl 3 rfl) ?_
  refine lv_iload_n hx hb dL_law_414 rfl (lv_at hl 0 rfl) ?_
  refine lv_iconst (v := 1) hx hb dL_law_415 (by decide) ?_
  refine lv_iadd hx hb dL_law_416 ?_
  refine va_sld hx hb hX hbl hbA hS0 (lw_vin (k := 1) (j := 1) hL rfl (by omega) hi) dL_law_417 ?_
  refine W.eq (g2 := F0 m 418 ls [.int (ya xs i 1), .ref qx]) rfl ?_
  refine lv_aload_n hx hb dL_law_418 rfl (lv_at hl 3 rfl) ?_
  refine lv_iload_n hx hb dL_law_419 rfl (lv_at hl 0 rfl) ?_
  refine lv_iconst (v := 2) hx hb dL_law_420 (by decide) ?_
  refine lv_iadd hx hb dL_law_421 ?_
  refine va_sld hx hb hX hbl hbA hS0 (lw_vin (k := 2) (j := 2) hL rfl (by omega) hi) dL_law_422 ?_
  refine W.eq (g2 := F0 m 423 ls [.int (ya xs i 2), .int (ya xs i 1), .ref qx]) rfl ?_
  refine W.eq (g2 := F0 m 423 ls ((Value.ref qx :: List.map Value.int [ya xs i 1, ya xs i 2]).reverse ++ [])) rfl ?_
  refine lw_cX lk_423 hz_100 C0 hK hJ [ya xs i 1, ya xs i 2] hl.1 rfl (Nat.le_of_ble_eq_true rfl) c1 (Or.inl rfl) e1 (fun v1 H1 locs1 hv1 hJ1 => ?_)
  obtain ⟨y1, hy1, hz1⟩ := lwV_i hv1 e1
  subst hy1
  show W p l e room_1 s m #[Value.ref b] below meth c H1 locs1 600000 7302250 (lw_Z below #[Value.ref b] s) (F0 m 426 ls [.int y1])
  have hS1 := hJ1
  obtain ⟨_, _, _, _, _, _, _, _, _, _, _, _, _, _, hS1⟩ := hS1
  refine lv_pop hx hb dL_law_426 rfl ?_
  refine lv_aload_n hx hb dL_law_427 rfl (lv_at hl 1 rfl) ?_
  refine lv_aload_n hx hb dL_law_428 rfl (lv_at hl 3 rfl) ?_
  refine lv_iload_n hx hb dL_law_429 rfl (lv_at hl 0 rfl) ?_
  refine lv_iconst (v := 1) hx hb dL_law_430 (by decide) ?_
  refine lv_iadd hx hb dL_law_431 ?_
  refine va_sld hx hb hX hbl hbA hS1 (lw_vin (k := 1) (j := 1) hL rfl (by omega) hi) dL_law_432 ?_
  refine W.eq (g2 := F0 m 433 ls [.int (ya xs i 1), .ref qm]) rfl ?_
  refine lv_aload_n hx hb dL_law_433 rfl (lv_at hl 3 rfl) ?_
  refine lv_iload_n hx hb dL_law_434 rfl (lv_at hl 0 rfl) ?_
  refine lv_iconst (v := 2) hx hb dL_law_435 (by decide) ?_
  refine lv_iadd hx hb dL_law_436 ?_
  refine va_sld hx hb hX hbl hbA hS1 (lw_vin (k := 2) (j := 2) hL rfl (by omega) hi) dL_law_437 ?_
  refine W.eq (g2 := F0 m 438 ls [.int (ya xs i 2), .int (ya xs i 1), .ref qm]) rfl ?_
  refine W.eq (g2 := F0 m 438 ls ((Value.ref qm :: List.map Value.int [ya xs i 1, ya xs i 2]).reverse ++ [])) rfl ?_
  refine lw_cM lk_438 hz_162 C0 hK hJ1 [ya xs i 1, ya xs i 2] hl.1 rfl (Nat.le_of_ble_eq_true rfl) c2 (Or.inl rfl) e2 (fun v2 H2 locs2 hv2 hJ2 => ?_)
  obtain ⟨y2, hy2, hz2⟩ := lwV_i hv2 e2
  subst hy2
  show W p l e room_1 s m #[Value.ref b] below meth c H2 locs2 600000 7302250 (lw_Z below #[Value.ref b] s) (F0 m 441 ls [.int y2])
  refine lv_pop hx hb dL_law_441 rfl ?_
  refine lv_goto (tgt := 942) hx hb dL_law_442 (by decide) ?_
  exact K _ _ _ _ ⟨q1, q2, hRR, hDD, hXR, hRW⟩ hJ2
set_option maxHeartbeats 4000000 in
set_option maxRecDepth 100000 in
theorem lw_c10 {p : Program} {l : Launch} {e : Env} {s : State} {m : MethodId} {below : List Frame} {meth : Method} {c : Code} {b L : Nat} {xs : Nat → Int32} {D : va_G} {cy : Nat → ClassId} (C0 : lw_At p s m meth c b L xs) (hL : L ≤ 2048) (hK : rx_K D vwCl (tyl cy) nwl ocl s) {i : Nat} (hi : i + 4 ≤ L) {AX AM : pm_A} {qx qm : Nat} {H : Heap} {locs : List Loc} (hR : lwR AX AM) (hJ : lwJ AX AM D cy s qx qm H locs) {ls : Array Slot} (hl : lv_has ls 4 [(3, .int (Int32.ofNat i)), (2, .ref qm), (1, .ref qx), (0, .ref b)]) (K : ∀ (AX AM : pm_A) (H : Heap) (locs : List Loc), lwR AX AM → lwJ AX AM D cy s qx qm H locs → W p l e room_1 s m #[Value.ref b] below meth c H locs 600000 7302250 (lw_Z below #[Value.ref b] s) (F0 m 942 ls [])) : W p l e room_1 s m #[Value.ref b] below meth c H locs 600000 7302250 (lw_Z below #[Value.ref b] s) (F0 m 445 ls []) := by
  obtain ⟨hx, hb, hr, hml, hown, hts, hX, hbl, hlocks, hgv⟩ := id C0
  have hbA : ¬ lA s b := Nat.not_le.mpr hbl
  have hS0 := hJ
  obtain ⟨_, _, _, _, _, _, _, _, _, _, _, _, _, _, hS0⟩ := hS0
  obtain ⟨sd, ks, hQ⟩ := hR.2.2.2.2.1
  obtain ⟨n1, r1, c1, ⟨z1, e1⟩, q1⟩ := ox_ones hR.1 (i32_r (ya xs i 1))
  obtain ⟨n2, r2, c2, ⟨z2, e2⟩, q2⟩ := om_ones hR.2.1 (i32_r (ya xs i 1))
  have fx := fx_ones c1 hR.2.2.1.1
  have fm := fm_ones c2 (gK_of hR.2.1.g)
  have hRR : RR r1.2 r2.2 := (hR.2.2.1.kX fx.1 fx.2 rfl rfl rfl rfl).kM fm.2 rfl rfl
  have hDD : DT r1.2 r2.2 := (hR.2.2.2.1.kX (fx_ones c1 hR.2.2.1.1).2 rfl rfl rfl rfl rfl).kM (fm_ones c2 (gK_of hR.2.1.g)).2 rfl rfl rfl
  have hCA : CA r1.2 := hQ.2.1.k fx.2 rfl
  have hRW : RW r1.2 r2.2 := hR.2.2.2.2.2.k fx.2 fm.2 rfl rfl
  have hXR : XR r1.2 r2.2 := hR.2.2.2.2.1.kk q1.1 q2.g fx.2 fm.2 rfl rfl rfl rfl
  refine lv_aload_n hx hb dL_law_445 rfl (lv_at hl 2 rfl) ?_
  refine lv_aload_n hx hb dL_law_446 rfl (lv_at hl 3 rfl) ?_
  refine lv_iload_n hx hb dL_law_447 rfl (lv_at hl 0 rfl) ?_
  refine lv_iconst (v := 1) hx hb dL_law_448 (by decide) ?_
  refine lv_iadd hx hb dL_law_449 ?_
  refine va_sld hx hb hX hbl hbA hS0 (lw_vin (k := 1) (j := 1) hL rfl (by omega) hi) dL_law_450 ?_
  refine W.eq (g2 := F0 m 451 ls [.int (ya xs i 1), .ref qx]) rfl ?_
  refine W.eq (g2 := F0 m 451 ls ((Value.ref qx :: List.map Value.int [ya xs i 1]).reverse ++ [])) rfl ?_
  refine lw_cX lk_451 hz_101 C0 hK hJ [ya xs i 1] hl.1 rfl (Nat.le_of_ble_eq_true rfl) c1 (Or.inr rfl) e1 (fun v1 H1 locs1 hv1 hJ1 => ?_)
  obtain ⟨y1, hy1, hz1⟩ := lwV_l hv1 e1
  subst hy1
  show W p l e room_1 s m #[Value.ref b] below meth c H1 locs1 600000 7302250 (lw_Z below #[Value.ref b] s) (F0 m 454 ls [.long y1])
  have hS1 := hJ1
  obtain ⟨_, _, _, _, _, _, _, _, _, _, _, _, _, _, hS1⟩ := hS1
  refine lv_pop2_2 hx hb dL_law_454 rfl ?_
  refine lv_aload_n hx hb dL_law_455 rfl (lv_at hl 1 rfl) ?_
  refine lv_aload_n hx hb dL_law_456 rfl (lv_at hl 3 rfl) ?_
  refine lv_iload_n hx hb dL_law_457 rfl (lv_at hl 0 rfl) ?_
  refine lv_iconst (v := 1) hx hb dL_law_458 (by decide) ?_
  refine lv_iadd hx hb dL_law_459 ?_
  refine va_sld hx hb hX hbl hbA hS1 (lw_vin (k := 1) (j := 1) hL rfl (by omega) hi) dL_law_460 ?_
  refine W.eq (g2 := F0 m 461 ls [.int (ya xs i 1), .ref qm]) rfl ?_
  refine W.eq (g2 := F0 m 461 ls ((Value.ref qm :: List.map Value.int [ya xs i 1]).reverse ++ [])) rfl ?_
  refine lw_cM lk_461 hz_169 C0 hK hJ1 [ya xs i 1] hl.1 rfl (Nat.le_of_ble_eq_true rfl) c2 (Or.inr rfl) e2 (fun v2 H2 locs2 hv2 hJ2 => ?_)
  obtain ⟨y2, hy2, hz2⟩ := lwV_l hv2 e2
  subst hy2
  show W p l e room_1 s m #[Value.ref b] below meth c H2 locs2 600000 7302250 (lw_Z below #[Value.ref b] s) (F0 m 464 ls [.long y2])
  refine lv_pop2_2 hx hb dL_law_464 rfl ?_
  refine lv_goto (tgt := 942) hx hb dL_law_465 (by decide) ?_
  exact K _ _ _ _ ⟨q1, q2, hRR, hDD, hXR, hRW⟩ hJ2
set_option maxHeartbeats 4000000 in
set_option maxRecDepth 100000 in
theorem lw_c11 {p : Program} {l : Launch} {e : Env} {s : State} {m : MethodId} {below : List Frame} {meth : Method} {c : Code} {b L : Nat} {xs : Nat → Int32} {D : va_G} {cy : Nat → ClassId} (C0 : lw_At p s m meth c b L xs) (hL : L ≤ 2048) (hK : rx_K D vwCl (tyl cy) nwl ocl s) {i : Nat} (hi : i + 4 ≤ L) {AX AM : pm_A} {qx qm : Nat} {H : Heap} {locs : List Loc} (hR : lwR AX AM) (hJ : lwJ AX AM D cy s qx qm H locs) {ls : Array Slot} (hl : lv_has ls 4 [(3, .int (Int32.ofNat i)), (2, .ref qm), (1, .ref qx), (0, .ref b)]) (K : ∀ (AX AM : pm_A) (H : Heap) (locs : List Loc), lwR AX AM → lwJ AX AM D cy s qx qm H locs → W p l e room_1 s m #[Value.ref b] below meth c H locs 600000 7302250 (lw_Z below #[Value.ref b] s) (F0 m 942 ls [])) : W p l e room_1 s m #[Value.ref b] below meth c H locs 600000 7302250 (lw_Z below #[Value.ref b] s) (F0 m 468 ls []) := by
  obtain ⟨hx, hb, hr, hml, hown, hts, hX, hbl, hlocks, hgv⟩ := id C0
  have hbA : ¬ lA s b := Nat.not_le.mpr hbl
  have hS0 := hJ
  obtain ⟨_, _, _, _, _, _, _, _, _, _, _, _, _, _, hS0⟩ := hS0
  obtain ⟨sd, ks, hQ⟩ := hR.2.2.2.2.1
  obtain ⟨n1, r1, c1, ⟨⟨z1, e1⟩, q1⟩, b1⟩ := Cl.and (ox_keep hR.1 (i32_r (ya xs i 1))) (keep_exX hQ.1.1 hQ.1.2.1)
  obtain ⟨n2, r2, c2, ⟨⟨z2, e2⟩, q2⟩, b2⟩ := Cl.and (om_keep hR.2.1 (i32_r (ya xs i 1))) (mkeep_exk ⟨hQ.1.2.2.1, hR.2.1.2⟩ _)
  have fx := fx_keep c1 hR.2.2.1.1
  have fm := fm_keep c2 (gK_of hR.2.1.g)
  have hRR : RR r1.2 r2.2 := (hR.2.2.1.kX fx.1 fx.2 rfl rfl rfl rfl).kM fm.2 rfl rfl
  have hDD : DT r1.2 r2.2 := (hR.2.2.2.1.kX (fx_keep c1 hR.2.2.1.1).2 rfl rfl rfl rfl rfl).kM (fm_keep c2 (gK_of hR.2.1.g)).2 rfl rfl rfl
  have hCA : CA r1.2 := hQ.2.1.k fx.2 rfl
  have hXR : XR r1.2 r2.2 := ⟨sd, ks, xr_sm hQ (kpP.sm hQ.1.1 hQ.1.2.1 b1) hCA (msm.t b2.2.1 fm.2 rfl)⟩
  have hRW : RW r1.2 r2.2 := hR.2.2.2.2.2.k fx.2 fm.2 rfl rfl
  refine lv_aload_n hx hb dL_law_468 rfl (lv_at hl 2 rfl) ?_
  refine lv_aload_n hx hb dL_law_469 rfl (lv_at hl 3 rfl) ?_
  refine lv_iload_n hx hb dL_law_470 rfl (lv_at hl 0 rfl) ?_
  refine lv_iconst (v := 1) hx hb dL_law_471 (by decide) ?_
  refine lv_iadd hx hb dL_law_472 ?_
  refine va_sld hx hb hX hbl hbA hS0 (lw_vin (k := 1) (j := 1) hL rfl (by omega) hi) dL_law_473 ?_
  refine W.eq (g2 := F0 m 474 ls [.int (ya xs i 1), .ref qx]) rfl ?_
  refine W.eq (g2 := F0 m 474 ls ((Value.ref qx :: List.map Value.int [ya xs i 1]).reverse ++ [])) rfl ?_
  refine lw_cX lk_474 hz_99 C0 hK hJ [ya xs i 1] hl.1 rfl (Nat.le_of_ble_eq_true rfl) c1 (Or.inl rfl) e1 (fun v1 H1 locs1 hv1 hJ1 => ?_)
  obtain ⟨y1, hy1, hz1⟩ := lwV_i hv1 e1
  subst hy1
  show W p l e room_1 s m #[Value.ref b] below meth c H1 locs1 600000 7302250 (lw_Z below #[Value.ref b] s) (F0 m 477 ls [.int y1])
  have hS1 := hJ1
  obtain ⟨_, _, _, _, _, _, _, _, _, _, _, _, _, _, hS1⟩ := hS1
  refine lv_pop hx hb dL_law_477 rfl ?_
  refine lv_aload_n hx hb dL_law_478 rfl (lv_at hl 1 rfl) ?_
  refine lv_aload_n hx hb dL_law_479 rfl (lv_at hl 3 rfl) ?_
  refine lv_iload_n hx hb dL_law_480 rfl (lv_at hl 0 rfl) ?_
  refine lv_iconst (v := 1) hx hb dL_law_481 (by decide) ?_
  refine lv_iadd hx hb dL_law_482 ?_
  refine va_sld hx hb hX hbl hbA hS1 (lw_vin (k := 1) (j := 1) hL rfl (by omega) hi) dL_law_483 ?_
  refine W.eq (g2 := F0 m 484 ls [.int (ya xs i 1), .ref qm]) rfl ?_
  refine W.eq (g2 := F0 m 484 ls ((Value.ref qm :: List.map Value.int [ya xs i 1]).reverse ++ [])) rfl ?_
  refine lw_cM lk_484 hz_160 C0 hK hJ1 [ya xs i 1] hl.1 rfl (Nat.le_of_ble_eq_true rfl) c2 (Or.inl rfl) e2 (fun v2 H2 locs2 hv2 hJ2 => ?_)
  obtain ⟨y2, hy2, hz2⟩ := lwV_i hv2 e2
  subst hy2
  show W p l e room_1 s m #[Value.ref b] below meth c H2 locs2 600000 7302250 (lw_Z below #[Value.ref b] s) (F0 m 487 ls [.int y2])
  refine lv_pop hx hb dL_law_487 rfl ?_
  refine lv_goto (tgt := 942) hx hb dL_law_488 (by decide) ?_
  exact K _ _ _ _ ⟨q1, q2, hRR, hDD, hXR, hRW⟩ hJ2
set_option maxHeartbeats 4000000 in
set_option maxRecDepth 100000 in
theorem lw_c12 {p : Program} {l : Launch} {e : Env} {s : State} {m : MethodId} {below : List Frame} {meth : Method} {c : Code} {b L : Nat} {xs : Nat → Int32} {D : va_G} {cy : Nat → ClassId} (C0 : lw_At p s m meth c b L xs) (hL : L ≤ 2048) (hK : rx_K D vwCl (tyl cy) nwl ocl s) {i : Nat} (hi : i + 4 ≤ L) {AX AM : pm_A} {qx qm : Nat} {H : Heap} {locs : List Loc} (hR : lwR AX AM) (hJ : lwJ AX AM D cy s qx qm H locs) {ls : Array Slot} (hl : lv_has ls 4 [(3, .int (Int32.ofNat i)), (2, .ref qm), (1, .ref qx), (0, .ref b)]) (K : ∀ (AX AM : pm_A) (H : Heap) (locs : List Loc), lwR AX AM → lwJ AX AM D cy s qx qm H locs → W p l e room_1 s m #[Value.ref b] below meth c H locs 600000 7302250 (lw_Z below #[Value.ref b] s) (F0 m 942 ls [])) : W p l e room_1 s m #[Value.ref b] below meth c H locs 600000 7302250 (lw_Z below #[Value.ref b] s) (F0 m 491 ls []) := by
  obtain ⟨hx, hb, hr, hml, hown, hts, hX, hbl, hlocks, hgv⟩ := id C0
  have hbA : ¬ lA s b := Nat.not_le.mpr hbl
  have hS0 := hJ
  obtain ⟨_, _, _, _, _, _, _, _, _, _, _, _, _, _, hS0⟩ := hS0
  obtain ⟨sd, ks, hQ⟩ := hR.2.2.2.2.1
  obtain ⟨n1, r1, c1, ⟨z1, e1⟩, q1⟩ := ox_same hR.1 (i32_r (ya xs i 1))
  obtain ⟨n2, r2, c2, ⟨z2, e2⟩, q2⟩ := om_same hR.2.1 (i32_r (ya xs i 1))
  have fx := fx_same c1 hR.2.2.1.1
  have fm := fm_same c2 (gK_of hR.2.1.g)
  have hRR : RR r1.2 r2.2 := (hR.2.2.1.kX fx.1 fx.2 rfl rfl rfl rfl).kM fm.2 rfl rfl
  have hDD : DT r1.2 r2.2 := (hR.2.2.2.1.kX (fx_same c1 hR.2.2.1.1).2 rfl rfl rfl rfl rfl).kM (fm_same c2 (gK_of hR.2.1.g)).2 rfl rfl rfl
  have hCA : CA r1.2 := hQ.2.1.k fx.2 rfl
  have hRW : RW r1.2 r2.2 := hR.2.2.2.2.2.k fx.2 fm.2 rfl rfl
  have hXR : XR r1.2 r2.2 := hR.2.2.2.2.1.kk q1.1 q2.g fx.2 fm.2 rfl rfl rfl rfl
  refine lv_aload_n hx hb dL_law_491 rfl (lv_at hl 2 rfl) ?_
  refine lv_aload_n hx hb dL_law_492 rfl (lv_at hl 3 rfl) ?_
  refine lv_iload_n hx hb dL_law_493 rfl (lv_at hl 0 rfl) ?_
  refine lv_iconst (v := 1) hx hb dL_law_494 (by decide) ?_
  refine lv_iadd hx hb dL_law_495 ?_
  refine va_sld hx hb hX hbl hbA hS0 (lw_vin (k := 1) (j := 1) hL rfl (by omega) hi) dL_law_496 ?_
  refine W.eq (g2 := F0 m 497 ls [.int (ya xs i 1), .ref qx]) rfl ?_
  refine W.eq (g2 := F0 m 497 ls ((Value.ref qx :: List.map Value.int [ya xs i 1]).reverse ++ [])) rfl ?_
  refine lw_cX lk_497 hz_106 C0 hK hJ [ya xs i 1] hl.1 rfl (Nat.le_of_ble_eq_true rfl) c1 (Or.inl rfl) e1 (fun v1 H1 locs1 hv1 hJ1 => ?_)
  obtain ⟨y1, hy1, hz1⟩ := lwV_i hv1 e1
  subst hy1
  show W p l e room_1 s m #[Value.ref b] below meth c H1 locs1 600000 7302250 (lw_Z below #[Value.ref b] s) (F0 m 500 ls [.int y1])
  have hS1 := hJ1
  obtain ⟨_, _, _, _, _, _, _, _, _, _, _, _, _, _, hS1⟩ := hS1
  refine lv_pop hx hb dL_law_500 rfl ?_
  refine lv_aload_n hx hb dL_law_501 rfl (lv_at hl 1 rfl) ?_
  refine lv_aload_n hx hb dL_law_502 rfl (lv_at hl 3 rfl) ?_
  refine lv_iload_n hx hb dL_law_503 rfl (lv_at hl 0 rfl) ?_
  refine lv_iconst (v := 1) hx hb dL_law_504 (by decide) ?_
  refine lv_iadd hx hb dL_law_505 ?_
  refine va_sld hx hb hX hbl hbA hS1 (lw_vin (k := 1) (j := 1) hL rfl (by omega) hi) dL_law_506 ?_
  refine W.eq (g2 := F0 m 507 ls [.int (ya xs i 1), .ref qm]) rfl ?_
  refine W.eq (g2 := F0 m 507 ls ((Value.ref qm :: List.map Value.int [ya xs i 1]).reverse ++ [])) rfl ?_
  refine lw_cM lk_507 hz_180 C0 hK hJ1 [ya xs i 1] hl.1 rfl (Nat.le_of_ble_eq_true rfl) c2 (Or.inl rfl) e2 (fun v2 H2 locs2 hv2 hJ2 => ?_)
  obtain ⟨y2, hy2, hz2⟩ := lwV_i hv2 e2
  subst hy2
  show W p l e room_1 s m #[Value.ref b] below meth c H2 locs2 600000 7302250 (lw_Z below #[Value.ref b] s) (F0 m 510 ls [.int y2])
  refine lv_pop hx hb dL_law_510 rfl ?_
  refine lv_goto (tgt := 942) hx hb dL_law_511 (by decide) ?_
  exact K _ _ _ _ ⟨q1, q2, hRR, hDD, hXR, hRW⟩ hJ2
set_option maxHeartbeats 4000000 in
set_option maxRecDepth 100000 in
theorem lw_c13 {p : Program} {l : Launch} {e : Env} {s : State} {m : MethodId} {below : List Frame} {meth : Method} {c : Code} {b L : Nat} {xs : Nat → Int32} {D : va_G} {cy : Nat → ClassId} (C0 : lw_At p s m meth c b L xs) (hL : L ≤ 2048) (hK : rx_K D vwCl (tyl cy) nwl ocl s) {i : Nat} (hi : i + 4 ≤ L) {AX AM : pm_A} {qx qm : Nat} {H : Heap} {locs : List Loc} (hR : lwR AX AM) (hJ : lwJ AX AM D cy s qx qm H locs) {ls : Array Slot} (hl : lv_has ls 4 [(3, .int (Int32.ofNat i)), (2, .ref qm), (1, .ref qx), (0, .ref b)]) (K : ∀ (AX AM : pm_A) (H : Heap) (locs : List Loc), lwR AX AM → lwJ AX AM D cy s qx qm H locs → W p l e room_1 s m #[Value.ref b] below meth c H locs 600000 7302250 (lw_Z below #[Value.ref b] s) (F0 m 942 ls [])) : W p l e room_1 s m #[Value.ref b] below meth c H locs 600000 7302250 (lw_Z below #[Value.ref b] s) (F0 m 514 ls []) := by
  obtain ⟨hx, hb, hr, hml, hown, hts, hX, hbl, hlocks, hgv⟩ := id C0
  have hbA : ¬ lA s b := Nat.not_le.mpr hbl
  have hS0 := hJ
  obtain ⟨_, _, _, _, _, _, _, _, _, _, _, _, _, _, hS0⟩ := hS0
  obtain ⟨sd, ks, hQ⟩ := hR.2.2.2.2.1
  obtain ⟨n1, r1, c1, ⟨⟨z1, e1⟩, q1⟩, b1⟩ := Cl.and (ox_all hR.1 ) (xall_ex hQ.wp hQ.1.1 hQ.2.1.1 hQ.1.2.1 ⟨rfl, rfl⟩)
  obtain ⟨n2, r2, c2, ⟨⟨z2, e2⟩, q2⟩, b2⟩ := Cl.and (om_all hR.2.1 ) (mall_exk ⟨hQ.1.2.2.1, hR.2.1.2⟩)
  have fx := fx_all c1 hR.2.2.1.1
  have fm := fm_all c2 (gK_of hR.2.1.g)
  have hRR : RR r1.2 r2.2 := (hR.2.2.1.kX fx.1 fx.2 rfl rfl rfl rfl).kM fm.2 rfl rfl
  have hDD : DT r1.2 r2.2 := (hR.2.2.2.1.kX (fx_all c1 hR.2.2.1.1).2 rfl rfl rfl rfl rfl).kM (fm_all c2 (gK_of hR.2.1.g)).2 rfl rfl rfl
  have hCA : CA r1.2 := hQ.2.1.k fx.2 rfl
  have hXR : XR r1.2 r2.2 := ⟨sd, ks, xr_sm hQ b1.sm hCA (msm.t b2.2.1 fm.2 rfl)⟩
  have hRW : RW r1.2 r2.2 := hR.2.2.2.2.2.k fx.2 fm.2 rfl rfl
  refine lv_aload_n hx hb dL_law_514 rfl (lv_at hl 2 rfl) ?_
  refine W.eq (g2 := F0 m 515 ls ((Value.ref qx :: List.map Value.int []).reverse ++ [])) rfl ?_
  refine lw_cX lk_515 hz_83 C0 hK hJ [] hl.1 rfl (Nat.le_of_ble_eq_true rfl) c1 (Or.inl rfl) e1 (fun v1 H1 locs1 hv1 hJ1 => ?_)
  obtain ⟨y1, hy1, hz1⟩ := lwV_i hv1 e1
  subst hy1
  show W p l e room_1 s m #[Value.ref b] below meth c H1 locs1 600000 7302250 (lw_Z below #[Value.ref b] s) (F0 m 518 ls [.int y1])
  have hS1 := hJ1
  obtain ⟨_, _, _, _, _, _, _, _, _, _, _, _, _, _, hS1⟩ := hS1
  refine lv_pop hx hb dL_law_518 rfl ?_
  refine lv_aload_n hx hb dL_law_519 rfl (lv_at hl 1 rfl) ?_
  refine W.eq (g2 := F0 m 520 ls ((Value.ref qm :: List.map Value.int []).reverse ++ [])) rfl ?_
  refine lw_cM lk_520 hz_123 C0 hK hJ1 [] hl.1 rfl (Nat.le_of_ble_eq_true rfl) c2 (Or.inl rfl) e2 (fun v2 H2 locs2 hv2 hJ2 => ?_)
  obtain ⟨y2, hy2, hz2⟩ := lwV_i hv2 e2
  subst hy2
  show W p l e room_1 s m #[Value.ref b] below meth c H2 locs2 600000 7302250 (lw_Z below #[Value.ref b] s) (F0 m 523 ls [.int y2])
  refine lv_pop hx hb dL_law_523 rfl ?_
  refine lv_goto (tgt := 942) hx hb dL_law_524 (by decide) ?_
  exact K _ _ _ _ ⟨q1, q2, hRR, hDD, hXR, hRW⟩ hJ2
set_option maxHeartbeats 4000000 in
set_option maxRecDepth 100000 in
theorem lw_c14 {p : Program} {l : Launch} {e : Env} {s : State} {m : MethodId} {below : List Frame} {meth : Method} {c : Code} {b L : Nat} {xs : Nat → Int32} {D : va_G} {cy : Nat → ClassId} (C0 : lw_At p s m meth c b L xs) (hL : L ≤ 2048) (hK : rx_K D vwCl (tyl cy) nwl ocl s) {i : Nat} (hi : i + 4 ≤ L) {AX AM : pm_A} {qx qm : Nat} {H : Heap} {locs : List Loc} (hR : lwR AX AM) (hJ : lwJ AX AM D cy s qx qm H locs) {ls : Array Slot} (hl : lv_has ls 4 [(3, .int (Int32.ofNat i)), (2, .ref qm), (1, .ref qx), (0, .ref b)]) (K : ∀ (AX AM : pm_A) (H : Heap) (locs : List Loc), lwR AX AM → lwJ AX AM D cy s qx qm H locs → W p l e room_1 s m #[Value.ref b] below meth c H locs 600000 7302250 (lw_Z below #[Value.ref b] s) (F0 m 942 ls [])) : W p l e room_1 s m #[Value.ref b] below meth c H locs 600000 7302250 (lw_Z below #[Value.ref b] s) (F0 m 527 ls []) := by
  obtain ⟨hx, hb, hr, hml, hown, hts, hX, hbl, hlocks, hgv⟩ := id C0
  have hbA : ¬ lA s b := Nat.not_le.mpr hbl
  have hS0 := hJ
  obtain ⟨_, _, _, _, _, _, _, _, _, _, _, _, _, _, hS0⟩ := hS0
  obtain ⟨sd, ks, hQ⟩ := hR.2.2.2.2.1
  obtain ⟨n1, r1, c1, ⟨z1, e1⟩, q1⟩ := ox_what hR.1 (i32_r (ya xs i 1)) (i32_r (ya xs i 2))
  obtain ⟨n2, r2, c2, ⟨z2, e2⟩, q2⟩ := om_what hR.2.1 (i32_r (ya xs i 1)) (i32_r (ya xs i 2))
  have fx := fx_what c1 hR.2.2.1.1
  have fm := fm_what c2 (gK_of hR.2.1.g)
  have hRR : RR r1.2 r2.2 := (hR.2.2.1.kX fx.1 fx.2 rfl rfl rfl rfl).kM fm.2 rfl rfl
  have hDD : DT r1.2 r2.2 := (hR.2.2.2.1.kX (fx_what c1 hR.2.2.1.1).2 rfl rfl rfl rfl rfl).kM (fm_what c2 (gK_of hR.2.1.g)).2 rfl rfl rfl
  have hCA : CA r1.2 := hQ.2.1.k fx.2 rfl
  have hRW : RW r1.2 r2.2 := hR.2.2.2.2.2.k fx.2 fm.2 rfl rfl
  have hXR : XR r1.2 r2.2 := hR.2.2.2.2.1.kk q1.1 q2.g fx.2 fm.2 rfl rfl rfl rfl
  refine lv_aload_n hx hb dL_law_527 rfl (lv_at hl 2 rfl) ?_
  refine lv_aload_n hx hb dL_law_528 rfl (lv_at hl 3 rfl) ?_
  refine lv_iload_n hx hb dL_law_529 rfl (lv_at hl 0 rfl) ?_
  refine lv_iconst (v := 1) hx hb dL_law_530 (by decide) ?_
  refine lv_iadd hx hb dL_law_531 ?_
  refine va_sld hx hb hX hbl hbA hS0 (lw_vin (k := 1) (j := 1) hL rfl (by omega) hi) dL_law_532 ?_
  refine W.eq (g2 := F0 m 533 ls [.int (ya xs i 1), .ref qx]) rfl ?_
  refine lv_aload_n hx hb dL_law_533 rfl (lv_at hl 3 rfl) ?_
  refine lv_iload_n hx hb dL_law_534 rfl (lv_at hl 0 rfl) ?_
  refine lv_iconst (v := 2) hx hb dL_law_535 (by decide) ?_
  refine lv_iadd hx hb dL_law_536 ?_
  refine va_sld hx hb hX hbl hbA hS0 (lw_vin (k := 2) (j := 2) hL rfl (by omega) hi) dL_law_537 ?_
  refine W.eq (g2 := F0 m 538 ls [.int (ya xs i 2), .int (ya xs i 1), .ref qx]) rfl ?_
  refine W.eq (g2 := F0 m 538 ls ((Value.ref qx :: List.map Value.int [ya xs i 1, ya xs i 2]).reverse ++ [])) rfl ?_
  refine lw_cX lk_538 hz_120 C0 hK hJ [ya xs i 1, ya xs i 2] hl.1 rfl (Nat.le_of_ble_eq_true rfl) c1 (Or.inr rfl) e1 (fun v1 H1 locs1 hv1 hJ1 => ?_)
  obtain ⟨y1, hy1, hz1⟩ := lwV_l hv1 e1
  subst hy1
  show W p l e room_1 s m #[Value.ref b] below meth c H1 locs1 600000 7302250 (lw_Z below #[Value.ref b] s) (F0 m 541 ls [.long y1])
  have hS1 := hJ1
  obtain ⟨_, _, _, _, _, _, _, _, _, _, _, _, _, _, hS1⟩ := hS1
  refine lv_pop2_2 hx hb dL_law_541 rfl ?_
  refine lv_aload_n hx hb dL_law_542 rfl (lv_at hl 1 rfl) ?_
  refine lv_aload_n hx hb dL_law_543 rfl (lv_at hl 3 rfl) ?_
  refine lv_iload_n hx hb dL_law_544 rfl (lv_at hl 0 rfl) ?_
  refine lv_iconst (v := 1) hx hb dL_law_545 (by decide) ?_
  refine lv_iadd hx hb dL_law_546 ?_
  refine va_sld hx hb hX hbl hbA hS1 (lw_vin (k := 1) (j := 1) hL rfl (by omega) hi) dL_law_547 ?_
  refine W.eq (g2 := F0 m 548 ls [.int (ya xs i 1), .ref qm]) rfl ?_
  refine lv_aload_n hx hb dL_law_548 rfl (lv_at hl 3 rfl) ?_
  refine lv_iload_n hx hb dL_law_549 rfl (lv_at hl 0 rfl) ?_
  refine lv_iconst (v := 2) hx hb dL_law_550 (by decide) ?_
  refine lv_iadd hx hb dL_law_551 ?_
  refine va_sld hx hb hX hbl hbA hS1 (lw_vin (k := 2) (j := 2) hL rfl (by omega) hi) dL_law_552 ?_
  refine W.eq (g2 := F0 m 553 ls [.int (ya xs i 2), .int (ya xs i 1), .ref qm]) rfl ?_
  refine W.eq (g2 := F0 m 553 ls ((Value.ref qm :: List.map Value.int [ya xs i 1, ya xs i 2]).reverse ++ [])) rfl ?_
  refine lw_cM lk_553 hz_203 C0 hK hJ1 [ya xs i 1, ya xs i 2] hl.1 rfl (Nat.le_of_ble_eq_true rfl) c2 (Or.inr rfl) e2 (fun v2 H2 locs2 hv2 hJ2 => ?_)
  obtain ⟨y2, hy2, hz2⟩ := lwV_l hv2 e2
  subst hy2
  show W p l e room_1 s m #[Value.ref b] below meth c H2 locs2 600000 7302250 (lw_Z below #[Value.ref b] s) (F0 m 556 ls [.long y2])
  refine lv_pop2_2 hx hb dL_law_556 rfl ?_
  refine lv_goto (tgt := 942) hx hb dL_law_557 (by decide) ?_
  exact K _ _ _ _ ⟨q1, q2, hRR, hDD, hXR, hRW⟩ hJ2
set_option maxHeartbeats 4000000 in
set_option maxRecDepth 100000 in
theorem lw_c15 {p : Program} {l : Launch} {e : Env} {s : State} {m : MethodId} {below : List Frame} {meth : Method} {c : Code} {b L : Nat} {xs : Nat → Int32} {D : va_G} {cy : Nat → ClassId} (C0 : lw_At p s m meth c b L xs) (hL : L ≤ 2048) (hK : rx_K D vwCl (tyl cy) nwl ocl s) {i : Nat} (hi : i + 4 ≤ L) {AX AM : pm_A} {qx qm : Nat} {H : Heap} {locs : List Loc} (hR : lwR AX AM) (hJ : lwJ AX AM D cy s qx qm H locs) {ls : Array Slot} (hl : lv_has ls 4 [(3, .int (Int32.ofNat i)), (2, .ref qm), (1, .ref qx), (0, .ref b)]) (K : ∀ (AX AM : pm_A) (H : Heap) (locs : List Loc), lwR AX AM → lwJ AX AM D cy s qx qm H locs → W p l e room_1 s m #[Value.ref b] below meth c H locs 600000 7302250 (lw_Z below #[Value.ref b] s) (F0 m 942 ls [])) : W p l e room_1 s m #[Value.ref b] below meth c H locs 600000 7302250 (lw_Z below #[Value.ref b] s) (F0 m 560 ls []) := by
  obtain ⟨hx, hb, hr, hml, hown, hts, hX, hbl, hlocks, hgv⟩ := id C0
  have hbA : ¬ lA s b := Nat.not_le.mpr hbl
  have hS0 := hJ
  obtain ⟨_, _, _, _, _, _, _, _, _, _, _, _, _, _, hS0⟩ := hS0
  obtain ⟨sd, ks, hQ⟩ := hR.2.2.2.2.1
  obtain ⟨n1, r1, c1, ⟨z1, e1⟩, q1⟩ := ox_finite hR.1 
  obtain ⟨n2, r2, c2, ⟨⟨z2, e2⟩, q2⟩, b2⟩ := Cl.and (om_finite hR.2.1 ) (mfinite_exk ⟨hQ.1.2.2.1, hR.2.1.2⟩)
  have fx := fx_finite c1 hR.2.2.1.1
  have fm := fm_finite c2 (gK_of hR.2.1.g)
  have hRR : RR r1.2 r2.2 := (hR.2.2.1.kX fx.1 fx.2 rfl rfl rfl rfl).kM fm.2 rfl rfl
  have hDD : DT r1.2 r2.2 := (hR.2.2.2.1.kX (fx_finite c1 hR.2.2.1.1).2 rfl rfl rfl rfl rfl).kM (fm_finite c2 (gK_of hR.2.1.g)).2 rfl rfl rfl
  have hCA : CA r1.2 := hQ.2.1.k fx.2 rfl
  have hXR : XR r1.2 r2.2 := ⟨sd, ks, xr_sm hQ (xfin_sm hQ.1.1 hQ.2.1 hQ.1.2.1 c1 q1.1) hCA (msm.t b2.2.1 fm.2 rfl)⟩
  have hRW : RW r1.2 r2.2 := hR.2.2.2.2.2.k fx.2 fm.2 rfl rfl
  refine lv_aload_n hx hb dL_law_560 rfl (lv_at hl 2 rfl) ?_
  refine W.eq (g2 := F0 m 561 ls ((Value.ref qx :: List.map Value.int []).reverse ++ [])) rfl ?_
  refine lw_cX lk_561 hz_90 C0 hK hJ [] hl.1 rfl (Nat.le_of_ble_eq_true rfl) c1 (Or.inl rfl) e1 (fun v1 H1 locs1 hv1 hJ1 => ?_)
  obtain ⟨y1, hy1, hz1⟩ := lwV_i hv1 e1
  subst hy1
  show W p l e room_1 s m #[Value.ref b] below meth c H1 locs1 600000 7302250 (lw_Z below #[Value.ref b] s) (F0 m 564 ls [.int y1])
  have hS1 := hJ1
  obtain ⟨_, _, _, _, _, _, _, _, _, _, _, _, _, _, hS1⟩ := hS1
  refine lv_pop hx hb dL_law_564 rfl ?_
  refine lv_aload_n hx hb dL_law_565 rfl (lv_at hl 1 rfl) ?_
  refine W.eq (g2 := F0 m 566 ls ((Value.ref qm :: List.map Value.int []).reverse ++ [])) rfl ?_
  refine lw_cM lk_566 hz_141 C0 hK hJ1 [] hl.1 rfl (Nat.le_of_ble_eq_true rfl) c2 (Or.inl rfl) e2 (fun v2 H2 locs2 hv2 hJ2 => ?_)
  obtain ⟨y2, hy2, hz2⟩ := lwV_i hv2 e2
  subst hy2
  show W p l e room_1 s m #[Value.ref b] below meth c H2 locs2 600000 7302250 (lw_Z below #[Value.ref b] s) (F0 m 569 ls [.int y2])
  refine lv_pop hx hb dL_law_569 rfl ?_
  refine lv_goto (tgt := 942) hx hb dL_law_570 (by decide) ?_
  exact K _ _ _ _ ⟨q1, q2, hRR, hDD, hXR, hRW⟩ hJ2
set_option maxHeartbeats 4000000 in
set_option maxRecDepth 100000 in
theorem lw_c16 {p : Program} {l : Launch} {e : Env} {s : State} {m : MethodId} {below : List Frame} {meth : Method} {c : Code} {b L : Nat} {xs : Nat → Int32} {D : va_G} {cy : Nat → ClassId} (C0 : lw_At p s m meth c b L xs) (hL : L ≤ 2048) (hK : rx_K D vwCl (tyl cy) nwl ocl s) {i : Nat} (hi : i + 4 ≤ L) {AX AM : pm_A} {qx qm : Nat} {H : Heap} {locs : List Loc} (hR : lwR AX AM) (hJ : lwJ AX AM D cy s qx qm H locs) {ls : Array Slot} (hl : lv_has ls 4 [(3, .int (Int32.ofNat i)), (2, .ref qm), (1, .ref qx), (0, .ref b)]) (K : ∀ (AX AM : pm_A) (H : Heap) (locs : List Loc), lwR AX AM → lwJ AX AM D cy s qx qm H locs → W p l e room_1 s m #[Value.ref b] below meth c H locs 600000 7302250 (lw_Z below #[Value.ref b] s) (F0 m 942 ls [])) : W p l e room_1 s m #[Value.ref b] below meth c H locs 600000 7302250 (lw_Z below #[Value.ref b] s) (F0 m 573 ls []) := by
  obtain ⟨hx, hb, hr, hml, hown, hts, hX, hbl, hlocks, hgv⟩ := id C0
  have hbA : ¬ lA s b := Nat.not_le.mpr hbl
  have hS0 := hJ
  obtain ⟨_, _, _, _, _, _, _, _, _, _, _, _, _, _, hS0⟩ := hS0
  obtain ⟨sd, ks, hQ⟩ := hR.2.2.2.2.1
  obtain ⟨n1, r1, c1, ⟨z1, e1⟩, q1⟩ := ox_step hR.1 (i32_r (ya xs i 1))
  obtain ⟨n2, r2, c2, ⟨z2, e2⟩, q2⟩ := om_step hR.2.1 (i32_r (ya xs i 1))
  have fx := fx_step c1 hR.2.2.1.1
  have fm := fm_step c2 (gK_of hR.2.1.g)
  have hRR : RR r1.2 r2.2 := (hR.2.2.1.kX fx.1 fx.2 rfl rfl rfl rfl).kM fm.2 rfl rfl
  have hDD : DT r1.2 r2.2 := (hR.2.2.2.1.kX (fx_step c1 hR.2.2.1.1).2 rfl rfl rfl rfl rfl).kM (fm_step c2 (gK_of hR.2.1.g)).2 rfl rfl rfl
  have hCA : CA r1.2 := hQ.2.1.k fx.2 rfl
  have hRW : RW r1.2 r2.2 := hR.2.2.2.2.2.k fx.2 fm.2 rfl rfl
  have hXR : XR r1.2 r2.2 := hR.2.2.2.2.1.kk q1.1 q2.g fx.2 fm.2 rfl rfl rfl rfl
  refine lv_aload_n hx hb dL_law_573 rfl (lv_at hl 2 rfl) ?_
  refine lv_aload_n hx hb dL_law_574 rfl (lv_at hl 3 rfl) ?_
  refine lv_iload_n hx hb dL_law_575 rfl (lv_at hl 0 rfl) ?_
  refine lv_iconst (v := 1) hx hb dL_law_576 (by decide) ?_
  refine lv_iadd hx hb dL_law_577 ?_
  refine va_sld hx hb hX hbl hbA hS0 (lw_vin (k := 1) (j := 1) hL rfl (by omega) hi) dL_law_578 ?_
  refine W.eq (g2 := F0 m 579 ls [.int (ya xs i 1), .ref qx]) rfl ?_
  refine W.eq (g2 := F0 m 579 ls ((Value.ref qx :: List.map Value.int [ya xs i 1]).reverse ++ [])) rfl ?_
  refine lw_cX lk_579 hz_110 C0 hK hJ [ya xs i 1] hl.1 rfl (Nat.le_of_ble_eq_true rfl) c1 (Or.inl rfl) e1 (fun v1 H1 locs1 hv1 hJ1 => ?_)
  obtain ⟨y1, hy1, hz1⟩ := lwV_i hv1 e1
  subst hy1
  show W p l e room_1 s m #[Value.ref b] below meth c H1 locs1 600000 7302250 (lw_Z below #[Value.ref b] s) (F0 m 582 ls [.int y1])
  have hS1 := hJ1
  obtain ⟨_, _, _, _, _, _, _, _, _, _, _, _, _, _, hS1⟩ := hS1
  refine lv_pop hx hb dL_law_582 rfl ?_
  refine lv_aload_n hx hb dL_law_583 rfl (lv_at hl 1 rfl) ?_
  refine lv_aload_n hx hb dL_law_584 rfl (lv_at hl 3 rfl) ?_
  refine lv_iload_n hx hb dL_law_585 rfl (lv_at hl 0 rfl) ?_
  refine lv_iconst (v := 1) hx hb dL_law_586 (by decide) ?_
  refine lv_iadd hx hb dL_law_587 ?_
  refine va_sld hx hb hX hbl hbA hS1 (lw_vin (k := 1) (j := 1) hL rfl (by omega) hi) dL_law_588 ?_
  refine W.eq (g2 := F0 m 589 ls [.int (ya xs i 1), .ref qm]) rfl ?_
  refine W.eq (g2 := F0 m 589 ls ((Value.ref qm :: List.map Value.int [ya xs i 1]).reverse ++ [])) rfl ?_
  refine lw_cM lk_589 hz_185 C0 hK hJ1 [ya xs i 1] hl.1 rfl (Nat.le_of_ble_eq_true rfl) c2 (Or.inl rfl) e2 (fun v2 H2 locs2 hv2 hJ2 => ?_)
  obtain ⟨y2, hy2, hz2⟩ := lwV_i hv2 e2
  subst hy2
  show W p l e room_1 s m #[Value.ref b] below meth c H2 locs2 600000 7302250 (lw_Z below #[Value.ref b] s) (F0 m 592 ls [.int y2])
  refine lv_pop hx hb dL_law_592 rfl ?_
  refine lv_goto (tgt := 942) hx hb dL_law_593 (by decide) ?_
  exact K _ _ _ _ ⟨q1, q2, hRR, hDD, hXR, hRW⟩ hJ2
set_option maxHeartbeats 4000000 in
set_option maxRecDepth 100000 in
theorem lw_c17 {p : Program} {l : Launch} {e : Env} {s : State} {m : MethodId} {below : List Frame} {meth : Method} {c : Code} {b L : Nat} {xs : Nat → Int32} {D : va_G} {cy : Nat → ClassId} (C0 : lw_At p s m meth c b L xs) (hL : L ≤ 2048) (hK : rx_K D vwCl (tyl cy) nwl ocl s) {i : Nat} (hi : i + 4 ≤ L) {AX AM : pm_A} {qx qm : Nat} {H : Heap} {locs : List Loc} (hR : lwR AX AM) (hJ : lwJ AX AM D cy s qx qm H locs) {ls : Array Slot} (hl : lv_has ls 4 [(3, .int (Int32.ofNat i)), (2, .ref qm), (1, .ref qx), (0, .ref b)]) (K : ∀ (AX AM : pm_A) (H : Heap) (locs : List Loc), lwR AX AM → lwJ AX AM D cy s qx qm H locs → W p l e room_1 s m #[Value.ref b] below meth c H locs 600000 7302250 (lw_Z below #[Value.ref b] s) (F0 m 942 ls [])) : W p l e room_1 s m #[Value.ref b] below meth c H locs 600000 7302250 (lw_Z below #[Value.ref b] s) (F0 m 596 ls []) := by
  obtain ⟨hx, hb, hr, hml, hown, hts, hX, hbl, hlocks, hgv⟩ := id C0
  have hbA : ¬ lA s b := Nat.not_le.mpr hbl
  have hS0 := hJ
  obtain ⟨_, _, _, _, _, _, _, _, _, _, _, _, _, _, hS0⟩ := hS0
  obtain ⟨sd, ks, hQ⟩ := hR.2.2.2.2.1
  obtain ⟨n1, r1, c1, ⟨z1, e1⟩, q1⟩ := ox_tables hR.1 
  obtain ⟨n2, r2, c2, ⟨z2, e2⟩, q2⟩ := om_tables hR.2.1 
  have fx := fx_tables c1 hR.2.2.1.1
  have fm := fm_tables c2 (gK_of hR.2.1.g)
  have hRR : RR r1.2 r2.2 := (hR.2.2.1.kX fx.1 fx.2 rfl rfl rfl rfl).kM fm.2 rfl rfl
  have hDD : DT r1.2 r2.2 := (hR.2.2.2.1.kX (fx_tables c1 hR.2.2.1.1).2 rfl rfl rfl rfl rfl).kM (fm_tables c2 (gK_of hR.2.1.g)).2 rfl rfl rfl
  have hCA : CA r1.2 := hQ.2.1.k fx.2 rfl
  have hRW : RW r1.2 r2.2 := hR.2.2.2.2.2.k fx.2 fm.2 rfl rfl
  have hXR : XR r1.2 r2.2 := hR.2.2.2.2.1.kk q1.1 q2.g fx.2 fm.2 rfl rfl rfl rfl
  refine lv_aload_n hx hb dL_law_596 rfl (lv_at hl 2 rfl) ?_
  refine W.eq (g2 := F0 m 597 ls ((Value.ref qx :: List.map Value.int []).reverse ++ [])) rfl ?_
  refine lw_cX lk_597 hz_112 C0 hK hJ [] hl.1 rfl (Nat.le_of_ble_eq_true rfl) c1 (Or.inl rfl) e1 (fun v1 H1 locs1 hv1 hJ1 => ?_)
  obtain ⟨y1, hy1, hz1⟩ := lwV_i hv1 e1
  subst hy1
  show W p l e room_1 s m #[Value.ref b] below meth c H1 locs1 600000 7302250 (lw_Z below #[Value.ref b] s) (F0 m 600 ls [.int y1])
  have hS1 := hJ1
  obtain ⟨_, _, _, _, _, _, _, _, _, _, _, _, _, _, hS1⟩ := hS1
  refine lv_pop hx hb dL_law_600 rfl ?_
  refine lv_aload_n hx hb dL_law_601 rfl (lv_at hl 1 rfl) ?_
  refine W.eq (g2 := F0 m 602 ls ((Value.ref qm :: List.map Value.int []).reverse ++ [])) rfl ?_
  refine lw_cM lk_602 hz_189 C0 hK hJ1 [] hl.1 rfl (Nat.le_of_ble_eq_true rfl) c2 (Or.inl rfl) e2 (fun v2 H2 locs2 hv2 hJ2 => ?_)
  obtain ⟨y2, hy2, hz2⟩ := lwV_i hv2 e2
  subst hy2
  show W p l e room_1 s m #[Value.ref b] below meth c H2 locs2 600000 7302250 (lw_Z below #[Value.ref b] s) (F0 m 605 ls [.int y2])
  refine lv_pop hx hb dL_law_605 rfl ?_
  refine lv_goto (tgt := 942) hx hb dL_law_606 (by decide) ?_
  exact K _ _ _ _ ⟨q1, q2, hRR, hDD, hXR, hRW⟩ hJ2
set_option maxHeartbeats 4000000 in
set_option maxRecDepth 100000 in
theorem lw_c18 {p : Program} {l : Launch} {e : Env} {s : State} {m : MethodId} {below : List Frame} {meth : Method} {c : Code} {b L : Nat} {xs : Nat → Int32} {D : va_G} {cy : Nat → ClassId} (C0 : lw_At p s m meth c b L xs) (hL : L ≤ 2048) (hK : rx_K D vwCl (tyl cy) nwl ocl s) {i : Nat} (hi : i + 4 ≤ L) {AX AM : pm_A} {qx qm : Nat} {H : Heap} {locs : List Loc} (hR : lwR AX AM) (hJ : lwJ AX AM D cy s qx qm H locs) {ls : Array Slot} (hl : lv_has ls 4 [(3, .int (Int32.ofNat i)), (2, .ref qm), (1, .ref qx), (0, .ref b)]) (K : ∀ (AX AM : pm_A) (H : Heap) (locs : List Loc), lwR AX AM → lwJ AX AM D cy s qx qm H locs → W p l e room_1 s m #[Value.ref b] below meth c H locs 600000 7302250 (lw_Z below #[Value.ref b] s) (F0 m 942 ls [])) : W p l e room_1 s m #[Value.ref b] below meth c H locs 600000 7302250 (lw_Z below #[Value.ref b] s) (F0 m 609 ls []) := by
  obtain ⟨hx, hb, hr, hml, hown, hts, hX, hbl, hlocks, hgv⟩ := id C0
  have hbA : ¬ lA s b := Nat.not_le.mpr hbl
  have hS0 := hJ
  obtain ⟨_, _, _, _, _, _, _, _, _, _, _, _, _, _, hS0⟩ := hS0
  obtain ⟨sd, ks, hQ⟩ := hR.2.2.2.2.1
  obtain ⟨n1, r1, c1, ⟨⟨z1, e1⟩, q1⟩, b1⟩ := Cl.and (ox_row hR.1 (i32_r (ya xs i 1)) (i32_r (ya xs i 2)) (i32_r (ya xs i 3))) (xrow_ex hR.1.1 hR.2.2.2.2.2.1)
  obtain ⟨n2, r2, c2, ⟨⟨z2, e2⟩, q2⟩, b2⟩ := Cl.and (om_row hR.2.1 (i32_r (ya xs i 1)) (i32_r (ya xs i 2)) (i32_r (ya xs i 3))) (mrow_ex hR.2.1.g)
  have fx := fx_row c1 hR.2.2.1.1
  have fm := fm_row c2 (gK_of hR.2.1.g)
  have hRR : RR r1.2 r2.2 := (hR.2.2.1.kX fx.1 fx.2 rfl rfl rfl rfl).kM fm.2 rfl rfl
  have hDD : DT r1.2 r2.2 := (hR.2.2.2.1.kX (fx_row c1 hR.2.2.1.1).2 rfl rfl rfl rfl rfl).kM (fm_row c2 (gK_of hR.2.1.g)).2 rfl rfl rfl
  have hCA : CA r1.2 := hQ.2.1.k fx.2 rfl
  have hRW : RW r1.2 r2.2 := rw_row hR.2.2.2.2.2 fx.2 rfl b1 b2
  have hXR : XR r1.2 r2.2 := hR.2.2.2.2.1.kk q1.1 q2.g fx.2 fm.2 rfl rfl rfl rfl
  refine lv_aload_n hx hb dL_law_609 rfl (lv_at hl 2 rfl) ?_
  refine lv_aload_n hx hb dL_law_610 rfl (lv_at hl 3 rfl) ?_
  refine lv_iload_n hx hb dL_law_611 rfl (lv_at hl 0 rfl) ?_
  refine lv_iconst (v := 1) hx hb dL_law_612 (by decide) ?_
  refine lv_iadd hx hb dL_law_613 ?_
  refine va_sld hx hb hX hbl hbA hS0 (lw_vin (k := 1) (j := 1) hL rfl (by omega) hi) dL_law_614 ?_
  refine W.eq (g2 := F0 m 615 ls [.int (ya xs i 1), .ref qx]) rfl ?_
  refine lv_aload_n hx hb dL_law_615 rfl (lv_at hl 3 rfl) ?_
  refine lv_iload_n hx hb dL_law_616 rfl (lv_at hl 0 rfl) ?_
  refine lv_iconst (v := 2) hx hb dL_law_617 (by decide) ?_
  refine lv_iadd hx hb dL_law_618 ?_
  refine va_sld hx hb hX hbl hbA hS0 (lw_vin (k := 2) (j := 2) hL rfl (by omega) hi) dL_law_619 ?_
  refine W.eq (g2 := F0 m 620 ls [.int (ya xs i 2), .int (ya xs i 1), .ref qx]) rfl ?_
  refine lv_aload_n hx hb dL_law_620 rfl (lv_at hl 3 rfl) ?_
  refine lv_iload_n hx hb dL_law_621 rfl (lv_at hl 0 rfl) ?_
  refine lv_iconst (v := 3) hx hb dL_law_622 (by decide) ?_
  refine lv_iadd hx hb dL_law_623 ?_
  refine va_sld hx hb hX hbl hbA hS0 (lw_vin (k := 3) (j := 3) hL rfl (by omega) hi) dL_law_624 ?_
  refine W.eq (g2 := F0 m 625 ls [.int (ya xs i 3), .int (ya xs i 2), .int (ya xs i 1), .ref qx]) rfl ?_
  refine W.eq (g2 := F0 m 625 ls ((Value.ref qx :: List.map Value.int [ya xs i 1, ya xs i 2, ya xs i 3]).reverse ++ [])) rfl ?_
  refine lw_cX lk_625 hz_105 C0 hK hJ [ya xs i 1, ya xs i 2, ya xs i 3] hl.1 rfl (Nat.le_of_ble_eq_true rfl) c1 (Or.inl rfl) e1 (fun v1 H1 locs1 hv1 hJ1 => ?_)
  obtain ⟨y1, hy1, hz1⟩ := lwV_i hv1 e1
  subst hy1
  show W p l e room_1 s m #[Value.ref b] below meth c H1 locs1 600000 7302250 (lw_Z below #[Value.ref b] s) (F0 m 628 ls [.int y1])
  have hS1 := hJ1
  obtain ⟨_, _, _, _, _, _, _, _, _, _, _, _, _, _, hS1⟩ := hS1
  refine lv_pop hx hb dL_law_628 rfl ?_
  refine lv_aload_n hx hb dL_law_629 rfl (lv_at hl 1 rfl) ?_
  refine lv_aload_n hx hb dL_law_630 rfl (lv_at hl 3 rfl) ?_
  refine lv_iload_n hx hb dL_law_631 rfl (lv_at hl 0 rfl) ?_
  refine lv_iconst (v := 1) hx hb dL_law_632 (by decide) ?_
  refine lv_iadd hx hb dL_law_633 ?_
  refine va_sld hx hb hX hbl hbA hS1 (lw_vin (k := 1) (j := 1) hL rfl (by omega) hi) dL_law_634 ?_
  refine W.eq (g2 := F0 m 635 ls [.int (ya xs i 1), .ref qm]) rfl ?_
  refine lv_aload_n hx hb dL_law_635 rfl (lv_at hl 3 rfl) ?_
  refine lv_iload_n hx hb dL_law_636 rfl (lv_at hl 0 rfl) ?_
  refine lv_iconst (v := 2) hx hb dL_law_637 (by decide) ?_
  refine lv_iadd hx hb dL_law_638 ?_
  refine va_sld hx hb hX hbl hbA hS1 (lw_vin (k := 2) (j := 2) hL rfl (by omega) hi) dL_law_639 ?_
  refine W.eq (g2 := F0 m 640 ls [.int (ya xs i 2), .int (ya xs i 1), .ref qm]) rfl ?_
  refine lv_aload_n hx hb dL_law_640 rfl (lv_at hl 3 rfl) ?_
  refine lv_iload_n hx hb dL_law_641 rfl (lv_at hl 0 rfl) ?_
  refine lv_iconst (v := 3) hx hb dL_law_642 (by decide) ?_
  refine lv_iadd hx hb dL_law_643 ?_
  refine va_sld hx hb hX hbl hbA hS1 (lw_vin (k := 3) (j := 3) hL rfl (by omega) hi) dL_law_644 ?_
  refine W.eq (g2 := F0 m 645 ls [.int (ya xs i 3), .int (ya xs i 2), .int (ya xs i 1), .ref qm]) rfl ?_
  refine W.eq (g2 := F0 m 645 ls ((Value.ref qm :: List.map Value.int [ya xs i 1, ya xs i 2, ya xs i 3]).reverse ++ [])) rfl ?_
  refine lw_cM lk_645 hz_179 C0 hK hJ1 [ya xs i 1, ya xs i 2, ya xs i 3] hl.1 rfl (Nat.le_of_ble_eq_true rfl) c2 (Or.inl rfl) e2 (fun v2 H2 locs2 hv2 hJ2 => ?_)
  obtain ⟨y2, hy2, hz2⟩ := lwV_i hv2 e2
  subst hy2
  show W p l e room_1 s m #[Value.ref b] below meth c H2 locs2 600000 7302250 (lw_Z below #[Value.ref b] s) (F0 m 648 ls [.int y2])
  refine lv_pop hx hb dL_law_648 rfl ?_
  refine lv_goto (tgt := 942) hx hb dL_law_649 (by decide) ?_
  exact K _ _ _ _ ⟨q1, q2, hRR, hDD, hXR, hRW⟩ hJ2
set_option maxHeartbeats 4000000 in
set_option maxRecDepth 100000 in
theorem lw_c19 {p : Program} {l : Launch} {e : Env} {s : State} {m : MethodId} {below : List Frame} {meth : Method} {c : Code} {b L : Nat} {xs : Nat → Int32} {D : va_G} {cy : Nat → ClassId} (C0 : lw_At p s m meth c b L xs) (hL : L ≤ 2048) (hK : rx_K D vwCl (tyl cy) nwl ocl s) {i : Nat} (hi : i + 4 ≤ L) {AX AM : pm_A} {qx qm : Nat} {H : Heap} {locs : List Loc} (hR : lwR AX AM) (hJ : lwJ AX AM D cy s qx qm H locs) {ls : Array Slot} (hl : lv_has ls 4 [(3, .int (Int32.ofNat i)), (2, .ref qm), (1, .ref qx), (0, .ref b)]) (K : ∀ (AX AM : pm_A) (H : Heap) (locs : List Loc), lwR AX AM → lwJ AX AM D cy s qx qm H locs → W p l e room_1 s m #[Value.ref b] below meth c H locs 600000 7302250 (lw_Z below #[Value.ref b] s) (F0 m 942 ls [])) : W p l e room_1 s m #[Value.ref b] below meth c H locs 600000 7302250 (lw_Z below #[Value.ref b] s) (F0 m 652 ls []) := by
  obtain ⟨hx, hb, hr, hml, hown, hts, hX, hbl, hlocks, hgv⟩ := id C0
  have hbA : ¬ lA s b := Nat.not_le.mpr hbl
  have hS0 := hJ
  obtain ⟨_, _, _, _, _, _, _, _, _, _, _, _, _, _, hS0⟩ := hS0
  obtain ⟨sd, ks, hQ⟩ := hR.2.2.2.2.1
  obtain ⟨n1, r1, c1, ⟨⟨z1, e1⟩, q1⟩, b1⟩ := Cl.and (ox_order hR.1 ) (xorder_ex hQ.1.1 hQ.1.2.1 hQ.2.1.2.2.2)
  obtain ⟨n2, r2, c2, ⟨⟨z2, e2⟩, q2⟩, b2⟩ := Cl.and (om_order hR.2.1 ) (morder_ex hQ.1.2.2.1)
  have fx := fx_order c1 hR.2.2.1.1
  have fm := fm_order c2 (gK_of hR.2.1.g)
  have hRR : RR r1.2 r2.2 := (hR.2.2.1.kX fx.1 fx.2 rfl rfl rfl rfl).kM fm.2 rfl rfl
  have hDD : DT r1.2 r2.2 := (hR.2.2.2.1.kX (fx_order c1 hR.2.2.1.1).2 rfl rfl rfl rfl rfl).kM (fm_order c2 (gK_of hR.2.1.g)).2 rfl rfl rfl
  have hCA : CA r1.2 := hQ.2.1.k fx.2 rfl
  have hXR : XR r1.2 r2.2 := ⟨sd, ks, xr_sm hQ b1.1.sm hCA (msm.t b2.1.1 fm.2 rfl)⟩
  have hRW : RW r1.2 r2.2 := hR.2.2.2.2.2.k fx.2 fm.2 rfl rfl
  refine lv_aload_n hx hb dL_law_652 rfl (lv_at hl 2 rfl) ?_
  refine W.eq (g2 := F0 m 653 ls ((Value.ref qx :: List.map Value.int []).reverse ++ [])) rfl ?_
  refine lw_cX lk_653 hz_102 C0 hK hJ [] hl.1 rfl (Nat.le_of_ble_eq_true rfl) c1 (Or.inl rfl) e1 (fun v1 H1 locs1 hv1 hJ1 => ?_)
  obtain ⟨y1, hy1, hz1⟩ := lwV_i hv1 e1
  subst hy1
  show W p l e room_1 s m #[Value.ref b] below meth c H1 locs1 600000 7302250 (lw_Z below #[Value.ref b] s) (F0 m 656 ls [.int y1])
  have hS1 := hJ1
  obtain ⟨_, _, _, _, _, _, _, _, _, _, _, _, _, _, hS1⟩ := hS1
  refine lv_pop hx hb dL_law_656 rfl ?_
  refine lv_aload_n hx hb dL_law_657 rfl (lv_at hl 1 rfl) ?_
  refine W.eq (g2 := F0 m 658 ls ((Value.ref qm :: List.map Value.int []).reverse ++ [])) rfl ?_
  refine lw_cM lk_658 hz_170 C0 hK hJ1 [] hl.1 rfl (Nat.le_of_ble_eq_true rfl) c2 (Or.inl rfl) e2 (fun v2 H2 locs2 hv2 hJ2 => ?_)
  obtain ⟨y2, hy2, hz2⟩ := lwV_i hv2 e2
  subst hy2
  show W p l e room_1 s m #[Value.ref b] below meth c H2 locs2 600000 7302250 (lw_Z below #[Value.ref b] s) (F0 m 661 ls [.int y2])
  refine lv_pop hx hb dL_law_661 rfl ?_
  refine lv_goto (tgt := 942) hx hb dL_law_662 (by decide) ?_
  exact K _ _ _ _ ⟨q1, q2, hRR, hDD, hXR, hRW⟩ hJ2
set_option maxHeartbeats 4000000 in
set_option maxRecDepth 100000 in
theorem lw_c20 {p : Program} {l : Launch} {e : Env} {s : State} {m : MethodId} {below : List Frame} {meth : Method} {c : Code} {b L : Nat} {xs : Nat → Int32} {D : va_G} {cy : Nat → ClassId} (C0 : lw_At p s m meth c b L xs) (hL : L ≤ 2048) (hK : rx_K D vwCl (tyl cy) nwl ocl s) {i : Nat} (hi : i + 4 ≤ L) {AX AM : pm_A} {qx qm : Nat} {H : Heap} {locs : List Loc} (hR : lwR AX AM) (hJ : lwJ AX AM D cy s qx qm H locs) {ls : Array Slot} (hl : lv_has ls 4 [(3, .int (Int32.ofNat i)), (2, .ref qm), (1, .ref qx), (0, .ref b)]) (K : ∀ (AX AM : pm_A) (H : Heap) (locs : List Loc), lwR AX AM → lwJ AX AM D cy s qx qm H locs → W p l e room_1 s m #[Value.ref b] below meth c H locs 600000 7302250 (lw_Z below #[Value.ref b] s) (F0 m 942 ls [])) : W p l e room_1 s m #[Value.ref b] below meth c H locs 600000 7302250 (lw_Z below #[Value.ref b] s) (F0 m 665 ls []) := by
  obtain ⟨hx, hb, hr, hml, hown, hts, hX, hbl, hlocks, hgv⟩ := id C0
  have hbA : ¬ lA s b := Nat.not_le.mpr hbl
  have hS0 := hJ
  obtain ⟨_, _, _, _, _, _, _, _, _, _, _, _, _, _, hS0⟩ := hS0
  obtain ⟨sd, ks, hQ⟩ := hR.2.2.2.2.1
  obtain ⟨n1, r1, c1, ⟨⟨z1, e1⟩, q1⟩, b1⟩ := Cl.and (ox_ring hR.1 (i32_r (ya xs i 1)) (i32_r (ya xs i 2))) (xring_ex hR.1.1)
  obtain ⟨n2, r2, c2, ⟨⟨z2, e2⟩, q2⟩, b2⟩ := Cl.and (om_ring hR.2.1 (i32_r (ya xs i 1)) (i32_r (ya xs i 2))) (mring_ex hR.2.1.g)
  have hst := rr_ring hR.2.2.1 (fx_ring c1 hR.2.2.1.1).1 b1 b2
  have hRR := hst.1
  have ez : z1 = z2 := by
    have := hst.2
    rw [e1, e2] at this
    cases this
    rfl
  have hDD : DT r1.2 r2.2 := (hR.2.2.2.1.kX (fx_ring c1 hR.2.2.1.1).2 rfl rfl rfl rfl rfl).kM (fm_ring c2 (gK_of hR.2.1.g)).2 rfl rfl rfl
  have fx := fx_ring c1 hR.2.2.1.1
  have fm := fm_ring c2 (gK_of hR.2.1.g)
  have hCA : CA r1.2 := hQ.2.1.k fx.2 rfl
  have hRW : RW r1.2 r2.2 := hR.2.2.2.2.2.k fx.2 fm.2 rfl rfl
  have hXR : XR r1.2 r2.2 := hR.2.2.2.2.1.kk q1.1 q2.g fx.2 fm.2 rfl rfl rfl rfl
  refine lv_aload_n hx hb dL_law_665 rfl (lv_at hl 2 rfl) ?_
  refine lv_aload_n hx hb dL_law_666 rfl (lv_at hl 3 rfl) ?_
  refine lv_iload_n hx hb dL_law_667 rfl (lv_at hl 0 rfl) ?_
  refine lv_iconst (v := 1) hx hb dL_law_668 (by decide) ?_
  refine lv_iadd hx hb dL_law_669 ?_
  refine va_sld hx hb hX hbl hbA hS0 (lw_vin (k := 1) (j := 1) hL rfl (by omega) hi) dL_law_670 ?_
  refine W.eq (g2 := F0 m 671 ls [.int (ya xs i 1), .ref qx]) rfl ?_
  refine lv_aload_n hx hb dL_law_671 rfl (lv_at hl 3 rfl) ?_
  refine lv_iload_n hx hb dL_law_672 rfl (lv_at hl 0 rfl) ?_
  refine lv_iconst (v := 2) hx hb dL_law_673 (by decide) ?_
  refine lv_iadd hx hb dL_law_674 ?_
  refine va_sld hx hb hX hbl hbA hS0 (lw_vin (k := 2) (j := 2) hL rfl (by omega) hi) dL_law_675 ?_
  refine W.eq (g2 := F0 m 676 ls [.int (ya xs i 2), .int (ya xs i 1), .ref qx]) rfl ?_
  refine W.eq (g2 := F0 m 676 ls ((Value.ref qx :: List.map Value.int [ya xs i 1, ya xs i 2]).reverse ++ [])) rfl ?_
  refine lw_cX lk_676 hz_103 C0 hK hJ [ya xs i 1, ya xs i 2] hl.1 rfl (Nat.le_of_ble_eq_true rfl) c1 (Or.inl rfl) e1 (fun v1 H1 locs1 hv1 hJ1 => ?_)
  obtain ⟨y1, hy1, hz1⟩ := lwV_i hv1 e1
  subst hy1
  show W p l e room_1 s m #[Value.ref b] below meth c H1 locs1 600000 7302250 (lw_Z below #[Value.ref b] s) (F0 m 679 ls [.int y1])
  have hS1 := hJ1
  obtain ⟨_, _, _, _, _, _, _, _, _, _, _, _, _, _, hS1⟩ := hS1
  refine lv_pop hx hb dL_law_679 rfl ?_
  refine lv_aload_n hx hb dL_law_680 rfl (lv_at hl 1 rfl) ?_
  refine lv_aload_n hx hb dL_law_681 rfl (lv_at hl 3 rfl) ?_
  refine lv_iload_n hx hb dL_law_682 rfl (lv_at hl 0 rfl) ?_
  refine lv_iconst (v := 1) hx hb dL_law_683 (by decide) ?_
  refine lv_iadd hx hb dL_law_684 ?_
  refine va_sld hx hb hX hbl hbA hS1 (lw_vin (k := 1) (j := 1) hL rfl (by omega) hi) dL_law_685 ?_
  refine W.eq (g2 := F0 m 686 ls [.int (ya xs i 1), .ref qm]) rfl ?_
  refine lv_aload_n hx hb dL_law_686 rfl (lv_at hl 3 rfl) ?_
  refine lv_iload_n hx hb dL_law_687 rfl (lv_at hl 0 rfl) ?_
  refine lv_iconst (v := 2) hx hb dL_law_688 (by decide) ?_
  refine lv_iadd hx hb dL_law_689 ?_
  refine va_sld hx hb hX hbl hbA hS1 (lw_vin (k := 2) (j := 2) hL rfl (by omega) hi) dL_law_690 ?_
  refine W.eq (g2 := F0 m 691 ls [.int (ya xs i 2), .int (ya xs i 1), .ref qm]) rfl ?_
  refine W.eq (g2 := F0 m 691 ls ((Value.ref qm :: List.map Value.int [ya xs i 1, ya xs i 2]).reverse ++ [])) rfl ?_
  refine lw_cM lk_691 hz_177 C0 hK hJ1 [ya xs i 1, ya xs i 2] hl.1 rfl (Nat.le_of_ble_eq_true rfl) c2 (Or.inl rfl) e2 (fun v2 H2 locs2 hv2 hJ2 => ?_)
  obtain ⟨y2, hy2, hz2⟩ := lwV_i hv2 e2
  subst hy2
  show W p l e room_1 s m #[Value.ref b] below meth c H2 locs2 600000 7302250 (lw_Z below #[Value.ref b] s) (F0 m 694 ls [.int y2])
  refine lv_pop hx hb dL_law_694 rfl ?_
  refine lv_goto (tgt := 942) hx hb dL_law_695 (by decide) ?_
  exact K _ _ _ _ ⟨q1, q2, hRR, hDD, hXR, hRW⟩ hJ2
set_option maxHeartbeats 4000000 in
set_option maxRecDepth 100000 in
theorem lw_c21 {p : Program} {l : Launch} {e : Env} {s : State} {m : MethodId} {below : List Frame} {meth : Method} {c : Code} {b L : Nat} {xs : Nat → Int32} {D : va_G} {cy : Nat → ClassId} (C0 : lw_At p s m meth c b L xs) (hL : L ≤ 2048) (hK : rx_K D vwCl (tyl cy) nwl ocl s) {i : Nat} (hi : i + 4 ≤ L) {AX AM : pm_A} {qx qm : Nat} {H : Heap} {locs : List Loc} (hR : lwR AX AM) (hJ : lwJ AX AM D cy s qx qm H locs) {ls : Array Slot} (hl : lv_has ls 4 [(3, .int (Int32.ofNat i)), (2, .ref qm), (1, .ref qx), (0, .ref b)]) (K : ∀ (AX AM : pm_A) (H : Heap) (locs : List Loc), lwR AX AM → lwJ AX AM D cy s qx qm H locs → W p l e room_1 s m #[Value.ref b] below meth c H locs 600000 7302250 (lw_Z below #[Value.ref b] s) (F0 m 942 ls [])) : W p l e room_1 s m #[Value.ref b] below meth c H locs 600000 7302250 (lw_Z below #[Value.ref b] s) (F0 m 698 ls []) := by
  obtain ⟨hx, hb, hr, hml, hown, hts, hX, hbl, hlocks, hgv⟩ := id C0
  have hbA : ¬ lA s b := Nat.not_le.mpr hbl
  have hS0 := hJ
  obtain ⟨_, _, _, _, _, _, _, _, _, _, _, _, _, _, hS0⟩ := hS0
  obtain ⟨sd, ks, hQ⟩ := hR.2.2.2.2.1
  obtain ⟨n1, r1, c1, ⟨⟨z1, e1⟩, q1⟩, b1⟩ := Cl.and (ox_fence hR.1 (i32_r (ya xs i 1)) (i32_r (ya xs i 2)) (i32_r (ya xs i 3))) (xfence_ex hR.1.1 (fun hs => ⟨hR.2.2.1.at hs, hR.2.1.2.2 _ hs⟩))
  obtain ⟨n2, r2, c2, ⟨⟨z2, e2⟩, q2⟩, b2⟩ := Cl.and (om_fence hR.2.1 (i32_r (ya xs i 1)) (i32_r (ya xs i 2)) (i32_r (ya xs i 3))) (mfence_ex hR.2.1.g)
  have hst := rr_fence hR.2.2.1 hR.2.1 (fx_fence c1 hR.2.2.1.1).1 b1 b2
  have hRR := hst.1
  have ez : z1 = z2 := by
    have := hst.2
    rw [e1, e2] at this
    cases this
    rfl
  have hDD : DT r1.2 r2.2 := (hR.2.2.2.1.kX (fx_fence c1 hR.2.2.1.1).2 rfl rfl rfl rfl rfl).kM (fm_fence c2 (gK_of hR.2.1.g)).2 rfl rfl rfl
  have fx := fx_fence c1 hR.2.2.1.1
  have fm := fm_fence c2 (gK_of hR.2.1.g)
  have hCA : CA r1.2 := hQ.2.1.k fx.2 rfl
  have hRW : RW r1.2 r2.2 := hR.2.2.2.2.2.k fx.2 fm.2 rfl rfl
  have hXR : XR r1.2 r2.2 := hR.2.2.2.2.1.kk q1.1 q2.g fx.2 fm.2 rfl rfl rfl rfl
  refine lv_aload_n hx hb dL_law_698 rfl (lv_at hl 2 rfl) ?_
  refine lv_aload_n hx hb dL_law_699 rfl (lv_at hl 3 rfl) ?_
  refine lv_iload_n hx hb dL_law_700 rfl (lv_at hl 0 rfl) ?_
  refine lv_iconst (v := 1) hx hb dL_law_701 (by decide) ?_
  refine lv_iadd hx hb dL_law_702 ?_
  refine va_sld hx hb hX hbl hbA hS0 (lw_vin (k := 1) (j := 1) hL rfl (by omega) hi) dL_law_703 ?_
  refine W.eq (g2 := F0 m 704 ls [.int (ya xs i 1), .ref qx]) rfl ?_
  refine lv_aload_n hx hb dL_law_704 rfl (lv_at hl 3 rfl) ?_
  refine lv_iload_n hx hb dL_law_705 rfl (lv_at hl 0 rfl) ?_
  refine lv_iconst (v := 2) hx hb dL_law_706 (by decide) ?_
  refine lv_iadd hx hb dL_law_707 ?_
  refine va_sld hx hb hX hbl hbA hS0 (lw_vin (k := 2) (j := 2) hL rfl (by omega) hi) dL_law_708 ?_
  refine W.eq (g2 := F0 m 709 ls [.int (ya xs i 2), .int (ya xs i 1), .ref qx]) rfl ?_
  refine lv_aload_n hx hb dL_law_709 rfl (lv_at hl 3 rfl) ?_
  refine lv_iload_n hx hb dL_law_710 rfl (lv_at hl 0 rfl) ?_
  refine lv_iconst (v := 3) hx hb dL_law_711 (by decide) ?_
  refine lv_iadd hx hb dL_law_712 ?_
  refine va_sld hx hb hX hbl hbA hS0 (lw_vin (k := 3) (j := 3) hL rfl (by omega) hi) dL_law_713 ?_
  refine W.eq (g2 := F0 m 714 ls [.int (ya xs i 3), .int (ya xs i 2), .int (ya xs i 1), .ref qx]) rfl ?_
  refine W.eq (g2 := F0 m 714 ls ((Value.ref qx :: List.map Value.int [ya xs i 1, ya xs i 2, ya xs i 3]).reverse ++ [])) rfl ?_
  refine lw_cX lk_714 hz_89 C0 hK hJ [ya xs i 1, ya xs i 2, ya xs i 3] hl.1 rfl (Nat.le_of_ble_eq_true rfl) c1 (Or.inl rfl) e1 (fun v1 H1 locs1 hv1 hJ1 => ?_)
  obtain ⟨y1, hy1, hz1⟩ := lwV_i hv1 e1
  subst hy1
  show W p l e room_1 s m #[Value.ref b] below meth c H1 locs1 600000 7302250 (lw_Z below #[Value.ref b] s) (F0 m 717 ls [.int y1])
  have hS1 := hJ1
  obtain ⟨_, _, _, _, _, _, _, _, _, _, _, _, _, _, hS1⟩ := hS1
  refine lv_pop hx hb dL_law_717 rfl ?_
  refine lv_aload_n hx hb dL_law_718 rfl (lv_at hl 1 rfl) ?_
  refine lv_aload_n hx hb dL_law_719 rfl (lv_at hl 3 rfl) ?_
  refine lv_iload_n hx hb dL_law_720 rfl (lv_at hl 0 rfl) ?_
  refine lv_iconst (v := 1) hx hb dL_law_721 (by decide) ?_
  refine lv_iadd hx hb dL_law_722 ?_
  refine va_sld hx hb hX hbl hbA hS1 (lw_vin (k := 1) (j := 1) hL rfl (by omega) hi) dL_law_723 ?_
  refine W.eq (g2 := F0 m 724 ls [.int (ya xs i 1), .ref qm]) rfl ?_
  refine lv_aload_n hx hb dL_law_724 rfl (lv_at hl 3 rfl) ?_
  refine lv_iload_n hx hb dL_law_725 rfl (lv_at hl 0 rfl) ?_
  refine lv_iconst (v := 2) hx hb dL_law_726 (by decide) ?_
  refine lv_iadd hx hb dL_law_727 ?_
  refine va_sld hx hb hX hbl hbA hS1 (lw_vin (k := 2) (j := 2) hL rfl (by omega) hi) dL_law_728 ?_
  refine W.eq (g2 := F0 m 729 ls [.int (ya xs i 2), .int (ya xs i 1), .ref qm]) rfl ?_
  refine lv_aload_n hx hb dL_law_729 rfl (lv_at hl 3 rfl) ?_
  refine lv_iload_n hx hb dL_law_730 rfl (lv_at hl 0 rfl) ?_
  refine lv_iconst (v := 3) hx hb dL_law_731 (by decide) ?_
  refine lv_iadd hx hb dL_law_732 ?_
  refine va_sld hx hb hX hbl hbA hS1 (lw_vin (k := 3) (j := 3) hL rfl (by omega) hi) dL_law_733 ?_
  refine W.eq (g2 := F0 m 734 ls [.int (ya xs i 3), .int (ya xs i 2), .int (ya xs i 1), .ref qm]) rfl ?_
  refine W.eq (g2 := F0 m 734 ls ((Value.ref qm :: List.map Value.int [ya xs i 1, ya xs i 2, ya xs i 3]).reverse ++ [])) rfl ?_
  refine lw_cM lk_734 hz_138 C0 hK hJ1 [ya xs i 1, ya xs i 2, ya xs i 3] hl.1 rfl (Nat.le_of_ble_eq_true rfl) c2 (Or.inl rfl) e2 (fun v2 H2 locs2 hv2 hJ2 => ?_)
  obtain ⟨y2, hy2, hz2⟩ := lwV_i hv2 e2
  subst hy2
  show W p l e room_1 s m #[Value.ref b] below meth c H2 locs2 600000 7302250 (lw_Z below #[Value.ref b] s) (F0 m 737 ls [.int y2])
  refine lv_pop hx hb dL_law_737 rfl ?_
  refine lv_goto (tgt := 942) hx hb dL_law_738 (by decide) ?_
  exact K _ _ _ _ ⟨q1, q2, hRR, hDD, hXR, hRW⟩ hJ2
set_option maxHeartbeats 4000000 in
set_option maxRecDepth 100000 in
theorem lw_c22 {p : Program} {l : Launch} {e : Env} {s : State} {m : MethodId} {below : List Frame} {meth : Method} {c : Code} {b L : Nat} {xs : Nat → Int32} {D : va_G} {cy : Nat → ClassId} (C0 : lw_At p s m meth c b L xs) (hL : L ≤ 2048) (hK : rx_K D vwCl (tyl cy) nwl ocl s) {i : Nat} (hi : i + 4 ≤ L) {AX AM : pm_A} {qx qm : Nat} {H : Heap} {locs : List Loc} (hR : lwR AX AM) (hJ : lwJ AX AM D cy s qx qm H locs) {ls : Array Slot} (hl : lv_has ls 4 [(3, .int (Int32.ofNat i)), (2, .ref qm), (1, .ref qx), (0, .ref b)]) (K : ∀ (AX AM : pm_A) (H : Heap) (locs : List Loc), lwR AX AM → lwJ AX AM D cy s qx qm H locs → W p l e room_1 s m #[Value.ref b] below meth c H locs 600000 7302250 (lw_Z below #[Value.ref b] s) (F0 m 942 ls [])) : W p l e room_1 s m #[Value.ref b] below meth c H locs 600000 7302250 (lw_Z below #[Value.ref b] s) (F0 m 741 ls []) := by
  obtain ⟨hx, hb, hr, hml, hown, hts, hX, hbl, hlocks, hgv⟩ := id C0
  have hbA : ¬ lA s b := Nat.not_le.mpr hbl
  have hS0 := hJ
  obtain ⟨_, _, _, _, _, _, _, _, _, _, _, _, _, _, hS0⟩ := hS0
  obtain ⟨sd, ks, hQ⟩ := hR.2.2.2.2.1
  obtain ⟨n1, r1, c1, ⟨⟨z1, e1⟩, q1⟩, b1⟩ := Cl.and (ox_flip hR.1 (i32_r (ya xs i 1)) (i32_r (ya xs i 2)) (i32_r (ya xs i 3))) (xflip_ex hR.1.1 (fun hs => ⟨hR.2.2.1.at hs, hR.2.1.2.2 _ hs⟩))
  obtain ⟨n2, r2, c2, ⟨⟨z2, e2⟩, q2⟩, b2⟩ := Cl.and (om_flip hR.2.1 (i32_r (ya xs i 1)) (i32_r (ya xs i 2)) (i32_r (ya xs i 3))) (mflip_ex hR.2.1)
  have hst := rr_flip hR.2.2.1 hR.2.1 (fx_flip c1 hR.2.2.1.1).1 b1 b2
  have hRR := hst.1
  have ez : z1 = z2 := by
    have := hst.2
    rw [e1, e2] at this
    cases this
    rfl
  have hDD : DT r1.2 r2.2 := (hR.2.2.2.1.kX (fx_flip c1 hR.2.2.1.1).2 rfl rfl rfl rfl rfl).kM (fm_flip c2 (gK_of hR.2.1.g)).2 rfl rfl rfl
  have fx := fx_flip c1 hR.2.2.1.1
  have fm := fm_flip c2 (gK_of hR.2.1.g)
  have hCA : CA r1.2 := hQ.2.1.k fx.2 rfl
  have hRW : RW r1.2 r2.2 := hR.2.2.2.2.2.k fx.2 fm.2 rfl rfl
  have hXR : XR r1.2 r2.2 := hR.2.2.2.2.1.kk q1.1 q2.g fx.2 fm.2 rfl rfl rfl rfl
  refine lv_aload_n hx hb dL_law_741 rfl (lv_at hl 2 rfl) ?_
  refine lv_aload_n hx hb dL_law_742 rfl (lv_at hl 3 rfl) ?_
  refine lv_iload_n hx hb dL_law_743 rfl (lv_at hl 0 rfl) ?_
  refine lv_iconst (v := 1) hx hb dL_law_744 (by decide) ?_
  refine lv_iadd hx hb dL_law_745 ?_
  refine va_sld hx hb hX hbl hbA hS0 (lw_vin (k := 1) (j := 1) hL rfl (by omega) hi) dL_law_746 ?_
  refine W.eq (g2 := F0 m 747 ls [.int (ya xs i 1), .ref qx]) rfl ?_
  refine lv_aload_n hx hb dL_law_747 rfl (lv_at hl 3 rfl) ?_
  refine lv_iload_n hx hb dL_law_748 rfl (lv_at hl 0 rfl) ?_
  refine lv_iconst (v := 2) hx hb dL_law_749 (by decide) ?_
  refine lv_iadd hx hb dL_law_750 ?_
  refine va_sld hx hb hX hbl hbA hS0 (lw_vin (k := 2) (j := 2) hL rfl (by omega) hi) dL_law_751 ?_
  refine W.eq (g2 := F0 m 752 ls [.int (ya xs i 2), .int (ya xs i 1), .ref qx]) rfl ?_
  refine lv_aload_n hx hb dL_law_752 rfl (lv_at hl 3 rfl) ?_
  refine lv_iload_n hx hb dL_law_753 rfl (lv_at hl 0 rfl) ?_
  refine lv_iconst (v := 3) hx hb dL_law_754 (by decide) ?_
  refine lv_iadd hx hb dL_law_755 ?_
  refine va_sld hx hb hX hbl hbA hS0 (lw_vin (k := 3) (j := 3) hL rfl (by omega) hi) dL_law_756 ?_
  refine W.eq (g2 := F0 m 757 ls [.int (ya xs i 3), .int (ya xs i 2), .int (ya xs i 1), .ref qx]) rfl ?_
  refine W.eq (g2 := F0 m 757 ls ((Value.ref qx :: List.map Value.int [ya xs i 1, ya xs i 2, ya xs i 3]).reverse ++ [])) rfl ?_
  refine lw_cX lk_757 hz_91 C0 hK hJ [ya xs i 1, ya xs i 2, ya xs i 3] hl.1 rfl (Nat.le_of_ble_eq_true rfl) c1 (Or.inl rfl) e1 (fun v1 H1 locs1 hv1 hJ1 => ?_)
  obtain ⟨y1, hy1, hz1⟩ := lwV_i hv1 e1
  subst hy1
  show W p l e room_1 s m #[Value.ref b] below meth c H1 locs1 600000 7302250 (lw_Z below #[Value.ref b] s) (F0 m 760 ls [.int y1])
  have hS1 := hJ1
  obtain ⟨_, _, _, _, _, _, _, _, _, _, _, _, _, _, hS1⟩ := hS1
  refine lv_pop hx hb dL_law_760 rfl ?_
  refine lv_aload_n hx hb dL_law_761 rfl (lv_at hl 1 rfl) ?_
  refine lv_aload_n hx hb dL_law_762 rfl (lv_at hl 3 rfl) ?_
  refine lv_iload_n hx hb dL_law_763 rfl (lv_at hl 0 rfl) ?_
  refine lv_iconst (v := 1) hx hb dL_law_764 (by decide) ?_
  refine lv_iadd hx hb dL_law_765 ?_
  refine va_sld hx hb hX hbl hbA hS1 (lw_vin (k := 1) (j := 1) hL rfl (by omega) hi) dL_law_766 ?_
  refine W.eq (g2 := F0 m 767 ls [.int (ya xs i 1), .ref qm]) rfl ?_
  refine lv_aload_n hx hb dL_law_767 rfl (lv_at hl 3 rfl) ?_
  refine lv_iload_n hx hb dL_law_768 rfl (lv_at hl 0 rfl) ?_
  refine lv_iconst (v := 2) hx hb dL_law_769 (by decide) ?_
  refine lv_iadd hx hb dL_law_770 ?_
  refine va_sld hx hb hX hbl hbA hS1 (lw_vin (k := 2) (j := 2) hL rfl (by omega) hi) dL_law_771 ?_
  refine W.eq (g2 := F0 m 772 ls [.int (ya xs i 2), .int (ya xs i 1), .ref qm]) rfl ?_
  refine lv_aload_n hx hb dL_law_772 rfl (lv_at hl 3 rfl) ?_
  refine lv_iload_n hx hb dL_law_773 rfl (lv_at hl 0 rfl) ?_
  refine lv_iconst (v := 3) hx hb dL_law_774 (by decide) ?_
  refine lv_iadd hx hb dL_law_775 ?_
  refine va_sld hx hb hX hbl hbA hS1 (lw_vin (k := 3) (j := 3) hL rfl (by omega) hi) dL_law_776 ?_
  refine W.eq (g2 := F0 m 777 ls [.int (ya xs i 3), .int (ya xs i 2), .int (ya xs i 1), .ref qm]) rfl ?_
  refine W.eq (g2 := F0 m 777 ls ((Value.ref qm :: List.map Value.int [ya xs i 1, ya xs i 2, ya xs i 3]).reverse ++ [])) rfl ?_
  refine lw_cM lk_777 hz_143 C0 hK hJ1 [ya xs i 1, ya xs i 2, ya xs i 3] hl.1 rfl (Nat.le_of_ble_eq_true rfl) c2 (Or.inl rfl) e2 (fun v2 H2 locs2 hv2 hJ2 => ?_)
  obtain ⟨y2, hy2, hz2⟩ := lwV_i hv2 e2
  subst hy2
  show W p l e room_1 s m #[Value.ref b] below meth c H2 locs2 600000 7302250 (lw_Z below #[Value.ref b] s) (F0 m 780 ls [.int y2])
  refine lv_pop hx hb dL_law_780 rfl ?_
  refine lv_goto (tgt := 942) hx hb dL_law_781 (by decide) ?_
  exact K _ _ _ _ ⟨q1, q2, hRR, hDD, hXR, hRW⟩ hJ2
set_option maxHeartbeats 4000000 in
set_option maxRecDepth 100000 in
theorem lw_c23 {p : Program} {l : Launch} {e : Env} {s : State} {m : MethodId} {below : List Frame} {meth : Method} {c : Code} {b L : Nat} {xs : Nat → Int32} {D : va_G} {cy : Nat → ClassId} (C0 : lw_At p s m meth c b L xs) (hL : L ≤ 2048) (hK : rx_K D vwCl (tyl cy) nwl ocl s) {i : Nat} (hi : i + 4 ≤ L) {AX AM : pm_A} {qx qm : Nat} {H : Heap} {locs : List Loc} (hR : lwR AX AM) (hJ : lwJ AX AM D cy s qx qm H locs) {ls : Array Slot} (hl : lv_has ls 4 [(3, .int (Int32.ofNat i)), (2, .ref qm), (1, .ref qx), (0, .ref b)]) (K : ∀ (AX AM : pm_A) (H : Heap) (locs : List Loc), lwR AX AM → lwJ AX AM D cy s qx qm H locs → W p l e room_1 s m #[Value.ref b] below meth c H locs 600000 7302250 (lw_Z below #[Value.ref b] s) (F0 m 942 ls [])) : W p l e room_1 s m #[Value.ref b] below meth c H locs 600000 7302250 (lw_Z below #[Value.ref b] s) (F0 m 784 ls []) := by
  obtain ⟨hx, hb, hr, hml, hown, hts, hX, hbl, hlocks, hgv⟩ := id C0
  have hbA : ¬ lA s b := Nat.not_le.mpr hbl
  have hS0 := hJ
  obtain ⟨_, _, _, _, _, _, _, _, _, _, _, _, _, _, hS0⟩ := hS0
  obtain ⟨sd, ks, hQ⟩ := hR.2.2.2.2.1
  obtain ⟨n1, r1, c1, ⟨z1, e1⟩, q1⟩ := ox_ringOf hR.1 (i32_r (ya xs i 1)) (i32_r (ya xs i 2))
  obtain ⟨n2, r2, c2, ⟨z2, e2⟩, q2⟩ := om_ringOf hR.2.1 (i32_r (ya xs i 1)) (i32_r (ya xs i 2))
  have fx := fx_ringOf c1 hR.2.2.1.1
  have fm := fm_ringOf c2 (gK_of hR.2.1.g)
  have hRR : RR r1.2 r2.2 := (hR.2.2.1.kX fx.1 fx.2 rfl rfl rfl rfl).kM fm.2 rfl rfl
  have hDD : DT r1.2 r2.2 := (hR.2.2.2.1.kX (fx_ringOf c1 hR.2.2.1.1).2 rfl rfl rfl rfl rfl).kM (fm_ringOf c2 (gK_of hR.2.1.g)).2 rfl rfl rfl
  have hCA : CA r1.2 := hQ.2.1.k fx.2 rfl
  have hRW : RW r1.2 r2.2 := hR.2.2.2.2.2.k fx.2 fm.2 rfl rfl
  have hXR : XR r1.2 r2.2 := hR.2.2.2.2.1.kk q1.1 q2.g fx.2 fm.2 rfl rfl rfl rfl
  refine lv_aload_n hx hb dL_law_784 rfl (lv_at hl 2 rfl) ?_
  refine lv_aload_n hx hb dL_law_785 rfl (lv_at hl 3 rfl) ?_
  refine lv_iload_n hx hb dL_law_786 rfl (lv_at hl 0 rfl) ?_
  refine lv_iconst (v := 1) hx hb dL_law_787 (by decide) ?_
  refine lv_iadd hx hb dL_law_788 ?_
  refine va_sld hx hb hX hbl hbA hS0 (lw_vin (k := 1) (j := 1) hL rfl (by omega) hi) dL_law_789 ?_
  refine W.eq (g2 := F0 m 790 ls [.int (ya xs i 1), .ref qx]) rfl ?_
  refine lv_aload_n hx hb dL_law_790 rfl (lv_at hl 3 rfl) ?_
  refine lv_iload_n hx hb dL_law_791 rfl (lv_at hl 0 rfl) ?_
  refine lv_iconst (v := 2) hx hb dL_law_792 (by decide) ?_
  refine lv_iadd hx hb dL_law_793 ?_
  refine va_sld hx hb hX hbl hbA hS0 (lw_vin (k := 2) (j := 2) hL rfl (by omega) hi) dL_law_794 ?_
  refine W.eq (g2 := F0 m 795 ls [.int (ya xs i 2), .int (ya xs i 1), .ref qx]) rfl ?_
  refine W.eq (g2 := F0 m 795 ls ((Value.ref qx :: List.map Value.int [ya xs i 1, ya xs i 2]).reverse ++ [])) rfl ?_
  refine lw_cX lk_795 hz_104 C0 hK hJ [ya xs i 1, ya xs i 2] hl.1 rfl (Nat.le_of_ble_eq_true rfl) c1 (Or.inl rfl) e1 (fun v1 H1 locs1 hv1 hJ1 => ?_)
  obtain ⟨y1, hy1, hz1⟩ := lwV_i hv1 e1
  subst hy1
  show W p l e room_1 s m #[Value.ref b] below meth c H1 locs1 600000 7302250 (lw_Z below #[Value.ref b] s) (F0 m 798 ls [.int y1])
  have hS1 := hJ1
  obtain ⟨_, _, _, _, _, _, _, _, _, _, _, _, _, _, hS1⟩ := hS1
  refine lv_pop hx hb dL_law_798 rfl ?_
  refine lv_aload_n hx hb dL_law_799 rfl (lv_at hl 1 rfl) ?_
  refine lv_aload_n hx hb dL_law_800 rfl (lv_at hl 3 rfl) ?_
  refine lv_iload_n hx hb dL_law_801 rfl (lv_at hl 0 rfl) ?_
  refine lv_iconst (v := 1) hx hb dL_law_802 (by decide) ?_
  refine lv_iadd hx hb dL_law_803 ?_
  refine va_sld hx hb hX hbl hbA hS1 (lw_vin (k := 1) (j := 1) hL rfl (by omega) hi) dL_law_804 ?_
  refine W.eq (g2 := F0 m 805 ls [.int (ya xs i 1), .ref qm]) rfl ?_
  refine lv_aload_n hx hb dL_law_805 rfl (lv_at hl 3 rfl) ?_
  refine lv_iload_n hx hb dL_law_806 rfl (lv_at hl 0 rfl) ?_
  refine lv_iconst (v := 2) hx hb dL_law_807 (by decide) ?_
  refine lv_iadd hx hb dL_law_808 ?_
  refine va_sld hx hb hX hbl hbA hS1 (lw_vin (k := 2) (j := 2) hL rfl (by omega) hi) dL_law_809 ?_
  refine W.eq (g2 := F0 m 810 ls [.int (ya xs i 2), .int (ya xs i 1), .ref qm]) rfl ?_
  refine W.eq (g2 := F0 m 810 ls ((Value.ref qm :: List.map Value.int [ya xs i 1, ya xs i 2]).reverse ++ [])) rfl ?_
  refine lw_cM lk_810 hz_178 C0 hK hJ1 [ya xs i 1, ya xs i 2] hl.1 rfl (Nat.le_of_ble_eq_true rfl) c2 (Or.inl rfl) e2 (fun v2 H2 locs2 hv2 hJ2 => ?_)
  obtain ⟨y2, hy2, hz2⟩ := lwV_i hv2 e2
  subst hy2
  show W p l e room_1 s m #[Value.ref b] below meth c H2 locs2 600000 7302250 (lw_Z below #[Value.ref b] s) (F0 m 813 ls [.int y2])
  refine lv_pop hx hb dL_law_813 rfl ?_
  refine lv_goto (tgt := 942) hx hb dL_law_814 (by decide) ?_
  exact K _ _ _ _ ⟨q1, q2, hRR, hDD, hXR, hRW⟩ hJ2
set_option maxHeartbeats 4000000 in
set_option maxRecDepth 100000 in
theorem lw_c24 {p : Program} {l : Launch} {e : Env} {s : State} {m : MethodId} {below : List Frame} {meth : Method} {c : Code} {b L : Nat} {xs : Nat → Int32} {D : va_G} {cy : Nat → ClassId} (C0 : lw_At p s m meth c b L xs) (hL : L ≤ 2048) (hK : rx_K D vwCl (tyl cy) nwl ocl s) {i : Nat} (hi : i + 4 ≤ L) {AX AM : pm_A} {qx qm : Nat} {H : Heap} {locs : List Loc} (hR : lwR AX AM) (hJ : lwJ AX AM D cy s qx qm H locs) {ls : Array Slot} (hl : lv_has ls 4 [(3, .int (Int32.ofNat i)), (2, .ref qm), (1, .ref qx), (0, .ref b)]) (K : ∀ (AX AM : pm_A) (H : Heap) (locs : List Loc), lwR AX AM → lwJ AX AM D cy s qx qm H locs → W p l e room_1 s m #[Value.ref b] below meth c H locs 600000 7302250 (lw_Z below #[Value.ref b] s) (F0 m 942 ls [])) : W p l e room_1 s m #[Value.ref b] below meth c H locs 600000 7302250 (lw_Z below #[Value.ref b] s) (F0 m 817 ls []) := by
  obtain ⟨hx, hb, hr, hml, hown, hts, hX, hbl, hlocks, hgv⟩ := id C0
  have hbA : ¬ lA s b := Nat.not_le.mpr hbl
  have hS0 := hJ
  obtain ⟨_, _, _, _, _, _, _, _, _, _, _, _, _, _, hS0⟩ := hS0
  obtain ⟨sd, ks, hQ⟩ := hR.2.2.2.2.1
  obtain ⟨n1, r1, c1, ⟨z1, e1⟩, q1⟩ := ox_frieze hR.1 (i32_r (ya xs i 1)) (i32_r (ya xs i 2)) (i32_r (ya xs i 3))
  obtain ⟨n2, r2, c2, ⟨z2, e2⟩, q2⟩ := om_frieze hR.2.1 (i32_r (ya xs i 1)) (i32_r (ya xs i 2)) (i32_r (ya xs i 3))
  have fx := fx_frieze c1 hR.2.2.1.1
  have fm := fm_frieze c2 (gK_of hR.2.1.g)
  have hRR : RR r1.2 r2.2 := (hR.2.2.1.kX fx.1 fx.2 rfl rfl rfl rfl).kM fm.2 rfl rfl
  have hDD : DT r1.2 r2.2 := (hR.2.2.2.1.kX (fx_frieze c1 hR.2.2.1.1).2 rfl rfl rfl rfl rfl).kM (fm_frieze c2 (gK_of hR.2.1.g)).2 rfl rfl rfl
  have hCA : CA r1.2 := hQ.2.1.k fx.2 rfl
  have hRW : RW r1.2 r2.2 := hR.2.2.2.2.2.k fx.2 fm.2 rfl rfl
  have hXR : XR r1.2 r2.2 := hR.2.2.2.2.1.kk q1.1 q2.g fx.2 fm.2 rfl rfl rfl rfl
  refine lv_aload_n hx hb dL_law_817 rfl (lv_at hl 2 rfl) ?_
  refine lv_aload_n hx hb dL_law_818 rfl (lv_at hl 3 rfl) ?_
  refine lv_iload_n hx hb dL_law_819 rfl (lv_at hl 0 rfl) ?_
  refine lv_iconst (v := 1) hx hb dL_law_820 (by decide) ?_
  refine lv_iadd hx hb dL_law_821 ?_
  refine va_sld hx hb hX hbl hbA hS0 (lw_vin (k := 1) (j := 1) hL rfl (by omega) hi) dL_law_822 ?_
  refine W.eq (g2 := F0 m 823 ls [.int (ya xs i 1), .ref qx]) rfl ?_
  refine lv_aload_n hx hb dL_law_823 rfl (lv_at hl 3 rfl) ?_
  refine lv_iload_n hx hb dL_law_824 rfl (lv_at hl 0 rfl) ?_
  refine lv_iconst (v := 2) hx hb dL_law_825 (by decide) ?_
  refine lv_iadd hx hb dL_law_826 ?_
  refine va_sld hx hb hX hbl hbA hS0 (lw_vin (k := 2) (j := 2) hL rfl (by omega) hi) dL_law_827 ?_
  refine W.eq (g2 := F0 m 828 ls [.int (ya xs i 2), .int (ya xs i 1), .ref qx]) rfl ?_
  refine lv_aload_n hx hb dL_law_828 rfl (lv_at hl 3 rfl) ?_
  refine lv_iload_n hx hb dL_law_829 rfl (lv_at hl 0 rfl) ?_
  refine lv_iconst (v := 3) hx hb dL_law_830 (by decide) ?_
  refine lv_iadd hx hb dL_law_831 ?_
  refine va_sld hx hb hX hbl hbA hS0 (lw_vin (k := 3) (j := 3) hL rfl (by omega) hi) dL_law_832 ?_
  refine W.eq (g2 := F0 m 833 ls [.int (ya xs i 3), .int (ya xs i 2), .int (ya xs i 1), .ref qx]) rfl ?_
  refine W.eq (g2 := F0 m 833 ls ((Value.ref qx :: List.map Value.int [ya xs i 1, ya xs i 2, ya xs i 3]).reverse ++ [])) rfl ?_
  refine lw_cX lk_833 hz_92 C0 hK hJ [ya xs i 1, ya xs i 2, ya xs i 3] hl.1 rfl (Nat.le_of_ble_eq_true rfl) c1 (Or.inr rfl) e1 (fun v1 H1 locs1 hv1 hJ1 => ?_)
  obtain ⟨y1, hy1, hz1⟩ := lwV_l hv1 e1
  subst hy1
  show W p l e room_1 s m #[Value.ref b] below meth c H1 locs1 600000 7302250 (lw_Z below #[Value.ref b] s) (F0 m 836 ls [.long y1])
  have hS1 := hJ1
  obtain ⟨_, _, _, _, _, _, _, _, _, _, _, _, _, _, hS1⟩ := hS1
  refine lv_pop2_2 hx hb dL_law_836 rfl ?_
  refine lv_aload_n hx hb dL_law_837 rfl (lv_at hl 1 rfl) ?_
  refine lv_aload_n hx hb dL_law_838 rfl (lv_at hl 3 rfl) ?_
  refine lv_iload_n hx hb dL_law_839 rfl (lv_at hl 0 rfl) ?_
  refine lv_iconst (v := 1) hx hb dL_law_840 (by decide) ?_
  refine lv_iadd hx hb dL_law_841 ?_
  refine va_sld hx hb hX hbl hbA hS1 (lw_vin (k := 1) (j := 1) hL rfl (by omega) hi) dL_law_842 ?_
  refine W.eq (g2 := F0 m 843 ls [.int (ya xs i 1), .ref qm]) rfl ?_
  refine lv_aload_n hx hb dL_law_843 rfl (lv_at hl 3 rfl) ?_
  refine lv_iload_n hx hb dL_law_844 rfl (lv_at hl 0 rfl) ?_
  refine lv_iconst (v := 2) hx hb dL_law_845 (by decide) ?_
  refine lv_iadd hx hb dL_law_846 ?_
  refine va_sld hx hb hX hbl hbA hS1 (lw_vin (k := 2) (j := 2) hL rfl (by omega) hi) dL_law_847 ?_
  refine W.eq (g2 := F0 m 848 ls [.int (ya xs i 2), .int (ya xs i 1), .ref qm]) rfl ?_
  refine lv_aload_n hx hb dL_law_848 rfl (lv_at hl 3 rfl) ?_
  refine lv_iload_n hx hb dL_law_849 rfl (lv_at hl 0 rfl) ?_
  refine lv_iconst (v := 3) hx hb dL_law_850 (by decide) ?_
  refine lv_iadd hx hb dL_law_851 ?_
  refine va_sld hx hb hX hbl hbA hS1 (lw_vin (k := 3) (j := 3) hL rfl (by omega) hi) dL_law_852 ?_
  refine W.eq (g2 := F0 m 853 ls [.int (ya xs i 3), .int (ya xs i 2), .int (ya xs i 1), .ref qm]) rfl ?_
  refine W.eq (g2 := F0 m 853 ls ((Value.ref qm :: List.map Value.int [ya xs i 1, ya xs i 2, ya xs i 3]).reverse ++ [])) rfl ?_
  refine lw_cM lk_853 hz_145 C0 hK hJ1 [ya xs i 1, ya xs i 2, ya xs i 3] hl.1 rfl (Nat.le_of_ble_eq_true rfl) c2 (Or.inr rfl) e2 (fun v2 H2 locs2 hv2 hJ2 => ?_)
  obtain ⟨y2, hy2, hz2⟩ := lwV_l hv2 e2
  subst hy2
  show W p l e room_1 s m #[Value.ref b] below meth c H2 locs2 600000 7302250 (lw_Z below #[Value.ref b] s) (F0 m 856 ls [.long y2])
  refine lv_pop2_2 hx hb dL_law_856 rfl ?_
  refine lv_goto (tgt := 942) hx hb dL_law_857 (by decide) ?_
  exact K _ _ _ _ ⟨q1, q2, hRR, hDD, hXR, hRW⟩ hJ2
set_option maxHeartbeats 4000000 in
set_option maxRecDepth 100000 in
theorem lw_c25 {p : Program} {l : Launch} {e : Env} {s : State} {m : MethodId} {below : List Frame} {meth : Method} {c : Code} {b L : Nat} {xs : Nat → Int32} {D : va_G} {cy : Nat → ClassId} (C0 : lw_At p s m meth c b L xs) (hL : L ≤ 2048) (hK : rx_K D vwCl (tyl cy) nwl ocl s) {i : Nat} (hi : i + 4 ≤ L) {AX AM : pm_A} {qx qm : Nat} {H : Heap} {locs : List Loc} (hR : lwR AX AM) (hJ : lwJ AX AM D cy s qx qm H locs) {ls : Array Slot} (hl : lv_has ls 4 [(3, .int (Int32.ofNat i)), (2, .ref qm), (1, .ref qx), (0, .ref b)]) (K : ∀ (AX AM : pm_A) (H : Heap) (locs : List Loc), lwR AX AM → lwJ AX AM D cy s qx qm H locs → W p l e room_1 s m #[Value.ref b] below meth c H locs 600000 7302250 (lw_Z below #[Value.ref b] s) (F0 m 942 ls [])) : W p l e room_1 s m #[Value.ref b] below meth c H locs 600000 7302250 (lw_Z below #[Value.ref b] s) (F0 m 860 ls []) := by
  obtain ⟨hx, hb, hr, hml, hown, hts, hX, hbl, hlocks, hgv⟩ := id C0
  have hbA : ¬ lA s b := Nat.not_le.mpr hbl
  have hS0 := hJ
  obtain ⟨_, _, _, _, _, _, _, _, _, _, _, _, _, _, hS0⟩ := hS0
  obtain ⟨sd, ks, hQ⟩ := hR.2.2.2.2.1
  obtain ⟨n1, r1, c1, ⟨z1, e1⟩, q1⟩ := ox_way hR.1
  obtain ⟨n2, r2, c2, ⟨⟨z2, e2⟩, q2⟩, b2⟩ := mway_ex hR.2.1
  have fx := fx_way c1 hR.2.2.1.1
  have hRR : RR r1.2 r2.2 := (hR.2.2.1.kX fx.1 fx.2 rfl rfl rfl rfl).kM2 b2.1 b2.2
  have hDD : DT r1.2 r2.2 := (hR.2.2.2.1.kX (fx_way c1 hR.2.2.1.1).2 rfl rfl rfl rfl rfl).kM (fm_way c2 (gK_of hR.2.1.g)).2 rfl rfl rfl
  have fm := fm_way c2 (gK_of hR.2.1.g)
  have hCA : CA r1.2 := hQ.2.1.k fx.2 rfl
  have hRW : RW r1.2 r2.2 := hR.2.2.2.2.2.k fx.2 fm.2 rfl rfl
  have hXR : XR r1.2 r2.2 := hR.2.2.2.2.1.kk q1.1 q2.g fx.2 fm.2 rfl rfl rfl rfl
  refine lv_aload_n hx hb dL_law_860 rfl (lv_at hl 2 rfl) ?_
  refine W.eq (g2 := F0 m 861 ls ((Value.ref qx :: List.map Value.int []).reverse ++ [])) rfl ?_
  refine lw_cX lk_861 hz_119 C0 hK hJ [] hl.1 rfl (Nat.le_of_ble_eq_true rfl) c1 (Or.inl rfl) e1 (fun v1 H1 locs1 hv1 hJ1 => ?_)
  obtain ⟨y1, hy1, hz1⟩ := lwV_i hv1 e1
  subst hy1
  show W p l e room_1 s m #[Value.ref b] below meth c H1 locs1 600000 7302250 (lw_Z below #[Value.ref b] s) (F0 m 864 ls [.int y1])
  have hS1 := hJ1
  obtain ⟨_, _, _, _, _, _, _, _, _, _, _, _, _, _, hS1⟩ := hS1
  refine lv_pop hx hb dL_law_864 rfl ?_
  refine lv_aload_n hx hb dL_law_865 rfl (lv_at hl 1 rfl) ?_
  refine W.eq (g2 := F0 m 866 ls ((Value.ref qm :: List.map Value.int []).reverse ++ [])) rfl ?_
  refine lw_cM lk_866 hz_202 C0 hK hJ1 [] hl.1 rfl (Nat.le_of_ble_eq_true rfl) c2 (Or.inl rfl) e2 (fun v2 H2 locs2 hv2 hJ2 => ?_)
  obtain ⟨y2, hy2, hz2⟩ := lwV_i hv2 e2
  subst hy2
  show W p l e room_1 s m #[Value.ref b] below meth c H2 locs2 600000 7302250 (lw_Z below #[Value.ref b] s) (F0 m 869 ls [.int y2])
  refine lv_pop hx hb dL_law_869 rfl ?_
  refine lv_goto (tgt := 942) hx hb dL_law_870 (by decide) ?_
  exact K _ _ _ _ ⟨q1, q2, hRR, hDD, hXR, hRW⟩ hJ2
set_option maxHeartbeats 4000000 in
set_option maxRecDepth 100000 in
theorem lw_c26 {p : Program} {l : Launch} {e : Env} {s : State} {m : MethodId} {below : List Frame} {meth : Method} {c : Code} {b L : Nat} {xs : Nat → Int32} {D : va_G} {cy : Nat → ClassId} (C0 : lw_At p s m meth c b L xs) (hL : L ≤ 2048) (hK : rx_K D vwCl (tyl cy) nwl ocl s) {i : Nat} (hi : i + 4 ≤ L) {AX AM : pm_A} {qx qm : Nat} {H : Heap} {locs : List Loc} (hR : lwR AX AM) (hJ : lwJ AX AM D cy s qx qm H locs) {ls : Array Slot} (hl : lv_has ls 4 [(3, .int (Int32.ofNat i)), (2, .ref qm), (1, .ref qx), (0, .ref b)]) (K : ∀ (AX AM : pm_A) (H : Heap) (locs : List Loc), lwR AX AM → lwJ AX AM D cy s qx qm H locs → W p l e room_1 s m #[Value.ref b] below meth c H locs 600000 7302250 (lw_Z below #[Value.ref b] s) (F0 m 942 ls [])) : W p l e room_1 s m #[Value.ref b] below meth c H locs 600000 7302250 (lw_Z below #[Value.ref b] s) (F0 m 873 ls []) := by
  obtain ⟨hx, hb, hr, hml, hown, hts, hX, hbl, hlocks, hgv⟩ := id C0
  have hbA : ¬ lA s b := Nat.not_le.mpr hbl
  have hS0 := hJ
  obtain ⟨_, _, _, _, _, _, _, _, _, _, _, _, _, _, hS0⟩ := hS0
  obtain ⟨sd, ks, hQ⟩ := hR.2.2.2.2.1
  obtain ⟨n1, r1, c1, ⟨z1, e1⟩, q1⟩ := ox_goes hR.1 (i32_r (ya xs i 1))
  obtain ⟨n2, r2, c2, ⟨z2, e2⟩, q2⟩ := om_goes hR.2.1 (i32_r (ya xs i 1))
  have fx := fx_goes c1 hR.2.2.1.1
  have fm := fm_goes c2 (gK_of hR.2.1.g)
  have hRR : RR r1.2 r2.2 := (hR.2.2.1.kX fx.1 fx.2 rfl rfl rfl rfl).kM fm.2 rfl rfl
  have hDD : DT r1.2 r2.2 := (hR.2.2.2.1.kX (fx_goes c1 hR.2.2.1.1).2 rfl rfl rfl rfl rfl).kM (fm_goes c2 (gK_of hR.2.1.g)).2 rfl rfl rfl
  have hCA : CA r1.2 := hQ.2.1.k fx.2 rfl
  have hRW : RW r1.2 r2.2 := hR.2.2.2.2.2.k fx.2 fm.2 rfl rfl
  have hXR : XR r1.2 r2.2 := hR.2.2.2.2.1.kk q1.1 q2.g fx.2 fm.2 rfl rfl rfl rfl
  refine lv_aload_n hx hb dL_law_873 rfl (lv_at hl 2 rfl) ?_
  refine lv_aload_n hx hb dL_law_874 rfl (lv_at hl 3 rfl) ?_
  refine lv_iload_n hx hb dL_law_875 rfl (lv_at hl 0 rfl) ?_
  refine lv_iconst (v := 1) hx hb dL_law_876 (by decide) ?_
  refine lv_iadd hx hb dL_law_877 ?_
  refine va_sld hx hb hX hbl hbA hS0 (lw_vin (k := 1) (j := 1) hL rfl (by omega) hi) dL_law_878 ?_
  refine W.eq (g2 := F0 m 879 ls [.int (ya xs i 1), .ref qx]) rfl ?_
  refine W.eq (g2 := F0 m 879 ls ((Value.ref qx :: List.map Value.int [ya xs i 1]).reverse ++ [])) rfl ?_
  refine lw_cX lk_879 hz_93 C0 hK hJ [ya xs i 1] hl.1 rfl (Nat.le_of_ble_eq_true rfl) c1 (Or.inl rfl) e1 (fun v1 H1 locs1 hv1 hJ1 => ?_)
  obtain ⟨y1, hy1, hz1⟩ := lwV_i hv1 e1
  subst hy1
  show W p l e room_1 s m #[Value.ref b] below meth c H1 locs1 600000 7302250 (lw_Z below #[Value.ref b] s) (F0 m 882 ls [.int y1])
  have hS1 := hJ1
  obtain ⟨_, _, _, _, _, _, _, _, _, _, _, _, _, _, hS1⟩ := hS1
  refine lv_pop hx hb dL_law_882 rfl ?_
  refine lv_aload_n hx hb dL_law_883 rfl (lv_at hl 1 rfl) ?_
  refine lv_aload_n hx hb dL_law_884 rfl (lv_at hl 3 rfl) ?_
  refine lv_iload_n hx hb dL_law_885 rfl (lv_at hl 0 rfl) ?_
  refine lv_iconst (v := 1) hx hb dL_law_886 (by decide) ?_
  refine lv_iadd hx hb dL_law_887 ?_
  refine va_sld hx hb hX hbl hbA hS1 (lw_vin (k := 1) (j := 1) hL rfl (by omega) hi) dL_law_888 ?_
  refine W.eq (g2 := F0 m 889 ls [.int (ya xs i 1), .ref qm]) rfl ?_
  refine W.eq (g2 := F0 m 889 ls ((Value.ref qm :: List.map Value.int [ya xs i 1]).reverse ++ [])) rfl ?_
  refine lw_cM lk_889 hz_146 C0 hK hJ1 [ya xs i 1] hl.1 rfl (Nat.le_of_ble_eq_true rfl) c2 (Or.inl rfl) e2 (fun v2 H2 locs2 hv2 hJ2 => ?_)
  obtain ⟨y2, hy2, hz2⟩ := lwV_i hv2 e2
  subst hy2
  show W p l e room_1 s m #[Value.ref b] below meth c H2 locs2 600000 7302250 (lw_Z below #[Value.ref b] s) (F0 m 892 ls [.int y2])
  refine lv_pop hx hb dL_law_892 rfl ?_
  refine lv_goto (tgt := 942) hx hb dL_law_893 (by decide) ?_
  exact K _ _ _ _ ⟨q1, q2, hRR, hDD, hXR, hRW⟩ hJ2
set_option maxHeartbeats 4000000 in
set_option maxRecDepth 100000 in
theorem lw_c27 {p : Program} {l : Launch} {e : Env} {s : State} {m : MethodId} {below : List Frame} {meth : Method} {c : Code} {b L : Nat} {xs : Nat → Int32} {D : va_G} {cy : Nat → ClassId} (C0 : lw_At p s m meth c b L xs) (hL : L ≤ 2048) (hK : rx_K D vwCl (tyl cy) nwl ocl s) {i : Nat} (hi : i + 4 ≤ L) {AX AM : pm_A} {qx qm : Nat} {H : Heap} {locs : List Loc} (hR : lwR AX AM) (hJ : lwJ AX AM D cy s qx qm H locs) {ls : Array Slot} (hl : lv_has ls 4 [(3, .int (Int32.ofNat i)), (2, .ref qm), (1, .ref qx), (0, .ref b)]) (K : ∀ (AX AM : pm_A) (H : Heap) (locs : List Loc), lwR AX AM → lwJ AX AM D cy s qx qm H locs → W p l e room_1 s m #[Value.ref b] below meth c H locs 600000 7302250 (lw_Z below #[Value.ref b] s) (F0 m 942 ls [])) : W p l e room_1 s m #[Value.ref b] below meth c H locs 600000 7302250 (lw_Z below #[Value.ref b] s) (F0 m 896 ls []) := by
  obtain ⟨hx, hb, hr, hml, hown, hts, hX, hbl, hlocks, hgv⟩ := id C0
  have hbA : ¬ lA s b := Nat.not_le.mpr hbl
  have hS0 := hJ
  obtain ⟨_, _, _, _, _, _, _, _, _, _, _, _, _, _, hS0⟩ := hS0
  obtain ⟨sd, ks, hQ⟩ := hR.2.2.2.2.1
  obtain ⟨n1, r1, c1, ⟨⟨⟨z1, e1⟩, q1⟩, b1⟩, d1⟩ := Cl.and (Cl.and (ox_seed hR.1 (i32_r (ya xs i 1))) (xseed_exq hR.1.1 hR.2.2.1.1 hR.2.2.2.1.1.1 hR.2.2.2.1.2.1 (fun ho => ts_9 hR.2.1 ho) (fun hs => ⟨hR.2.2.1.at hs, hR.2.1.2.2 _ hs⟩))) (kseed_exq hQ.1.1 hQ.2.1 hQ.1.2.1 hR.2.2.1.1 hR.2.2.2.1.1.1 hR.2.2.2.1.2.1 (fun ho => ts_9 hR.2.1 ho) (fun hs => ⟨hR.2.2.1.at hs, hR.2.1.2.2 _ hs⟩))
  obtain ⟨n2, r2, c2, ⟨⟨⟨z2, e2⟩, q2⟩, b2⟩, d2⟩ := Cl.and (Cl.and (om_seed hR.2.1 (i32_r (ya xs i 1))) (mseed_exq hR.2.1)) (mseed_ex3 hR.2.1)
  have fx := fx_seed c1 hR.2.2.1.1
  have fm := fm_seed c2 (gK_of hR.2.1.g)
  have hRR : RR r1.2 r2.2 := (hR.2.2.1.kX fx.1 fx.2 rfl rfl rfl rfl).kM fm.2 rfl rfl
  have hst := dt_seed hR.2.2.2.1 hR.2.1 fx.2 rfl rfl b1 b2
  have hDD := hst.1
  have hCA : CA r1.2 := hQ.2.1.k fx.2 rfl
  have hXR : XR r1.2 r2.2 := xr_seed hR.2.1 hQ hCA d1 d2
  have hRW : RW r1.2 r2.2 := hR.2.2.2.2.2.k fx.2 fm.2 rfl rfl
  refine lv_aload_n hx hb dL_law_896 rfl (lv_at hl 2 rfl) ?_
  refine lv_aload_n hx hb dL_law_897 rfl (lv_at hl 3 rfl) ?_
  refine lv_iload_n hx hb dL_law_898 rfl (lv_at hl 0 rfl) ?_
  refine lv_iconst (v := 1) hx hb dL_law_899 (by decide) ?_
  refine lv_iadd hx hb dL_law_900 ?_
  refine va_sld hx hb hX hbl hbA hS0 (lw_vin (k := 1) (j := 1) hL rfl (by omega) hi) dL_law_901 ?_
  refine W.eq (g2 := F0 m 902 ls [.int (ya xs i 1), .ref qx]) rfl ?_
  refine W.eq (g2 := F0 m 902 ls ((Value.ref qx :: List.map Value.int [ya xs i 1]).reverse ++ [])) rfl ?_
  refine lw_cX lk_902 hz_107 C0 hK hJ [ya xs i 1] hl.1 rfl (Nat.le_of_ble_eq_true rfl) c1 (Or.inl rfl) e1 (fun v1 H1 locs1 hv1 hJ1 => ?_)
  obtain ⟨y1, hy1, hz1⟩ := lwV_i hv1 e1
  subst hy1
  show W p l e room_1 s m #[Value.ref b] below meth c H1 locs1 600000 7302250 (lw_Z below #[Value.ref b] s) (F0 m 905 ls [.int y1])
  have hS1 := hJ1
  obtain ⟨_, _, _, _, _, _, _, _, _, _, _, _, _, _, hS1⟩ := hS1
  refine lv_pop hx hb dL_law_905 rfl ?_
  refine lv_aload_n hx hb dL_law_906 rfl (lv_at hl 1 rfl) ?_
  refine lv_aload_n hx hb dL_law_907 rfl (lv_at hl 3 rfl) ?_
  refine lv_iload_n hx hb dL_law_908 rfl (lv_at hl 0 rfl) ?_
  refine lv_iconst (v := 1) hx hb dL_law_909 (by decide) ?_
  refine lv_iadd hx hb dL_law_910 ?_
  refine va_sld hx hb hX hbl hbA hS1 (lw_vin (k := 1) (j := 1) hL rfl (by omega) hi) dL_law_911 ?_
  refine W.eq (g2 := F0 m 912 ls [.int (ya xs i 1), .ref qm]) rfl ?_
  refine W.eq (g2 := F0 m 912 ls ((Value.ref qm :: List.map Value.int [ya xs i 1]).reverse ++ [])) rfl ?_
  refine lw_cM lk_912 hz_183 C0 hK hJ1 [ya xs i 1] hl.1 rfl (Nat.le_of_ble_eq_true rfl) c2 (Or.inl rfl) e2 (fun v2 H2 locs2 hv2 hJ2 => ?_)
  obtain ⟨y2, hy2, hz2⟩ := lwV_i hv2 e2
  subst hy2
  show W p l e room_1 s m #[Value.ref b] below meth c H2 locs2 600000 7302250 (lw_Z below #[Value.ref b] s) (F0 m 915 ls [.int y2])
  refine lv_pop hx hb dL_law_915 rfl ?_
  refine lv_goto (tgt := 942) hx hb dL_law_916 (by decide) ?_
  exact K _ _ _ _ ⟨q1, q2, hRR, hDD, hXR, hRW⟩ hJ2
set_option maxHeartbeats 4000000 in
set_option maxRecDepth 100000 in
theorem lw_c28 {p : Program} {l : Launch} {e : Env} {s : State} {m : MethodId} {below : List Frame} {meth : Method} {c : Code} {b L : Nat} {xs : Nat → Int32} {D : va_G} {cy : Nat → ClassId} (C0 : lw_At p s m meth c b L xs) (hL : L ≤ 2048) (hK : rx_K D vwCl (tyl cy) nwl ocl s) {i : Nat} (hi : i + 4 ≤ L) {AX AM : pm_A} {qx qm : Nat} {H : Heap} {locs : List Loc} (hR : lwR AX AM) (hJ : lwJ AX AM D cy s qx qm H locs) {ls : Array Slot} (hl : lv_has ls 4 [(3, .int (Int32.ofNat i)), (2, .ref qm), (1, .ref qx), (0, .ref b)]) (K : ∀ (AX AM : pm_A) (H : Heap) (locs : List Loc), lwR AX AM → lwJ AX AM D cy s qx qm H locs → W p l e room_1 s m #[Value.ref b] below meth c H locs 600000 7302250 (lw_Z below #[Value.ref b] s) (F0 m 942 ls [])) : W p l e room_1 s m #[Value.ref b] below meth c H locs 600000 7302250 (lw_Z below #[Value.ref b] s) (F0 m 919 ls []) := by
  obtain ⟨hx, hb, hr, hml, hown, hts, hX, hbl, hlocks, hgv⟩ := id C0
  have hbA : ¬ lA s b := Nat.not_le.mpr hbl
  have hS0 := hJ
  obtain ⟨_, _, _, _, _, _, _, _, _, _, _, _, _, _, hS0⟩ := hS0
  obtain ⟨sd, ks, hQ⟩ := hR.2.2.2.2.1
  obtain ⟨n1, r1, c1, ⟨z1, e1⟩, q1⟩ := ox_count hR.1 (i32_r (ya xs i 1))
  obtain ⟨n2, r2, c2, ⟨z2, e2⟩, q2⟩ := om_count hR.2.1 (i32_r (ya xs i 1))
  have fx := fx_count c1 hR.2.2.1.1
  have fm := fm_count c2 (gK_of hR.2.1.g)
  have hRR : RR r1.2 r2.2 := (hR.2.2.1.kX fx.1 fx.2 rfl rfl rfl rfl).kM fm.2 rfl rfl
  have hDD : DT r1.2 r2.2 := (hR.2.2.2.1.kX (fx_count c1 hR.2.2.1.1).2 rfl rfl rfl rfl rfl).kM (fm_count c2 (gK_of hR.2.1.g)).2 rfl rfl rfl
  have hCA : CA r1.2 := hQ.2.1.k fx.2 rfl
  have hRW : RW r1.2 r2.2 := hR.2.2.2.2.2.k fx.2 fm.2 rfl rfl
  have hXR : XR r1.2 r2.2 := hR.2.2.2.2.1.kk q1.1 q2.g fx.2 fm.2 rfl rfl rfl rfl
  refine lv_aload_n hx hb dL_law_919 rfl (lv_at hl 2 rfl) ?_
  refine lv_aload_n hx hb dL_law_920 rfl (lv_at hl 3 rfl) ?_
  refine lv_iload_n hx hb dL_law_921 rfl (lv_at hl 0 rfl) ?_
  refine lv_iconst (v := 1) hx hb dL_law_922 (by decide) ?_
  refine lv_iadd hx hb dL_law_923 ?_
  refine va_sld hx hb hX hbl hbA hS0 (lw_vin (k := 1) (j := 1) hL rfl (by omega) hi) dL_law_924 ?_
  refine W.eq (g2 := F0 m 925 ls [.int (ya xs i 1), .ref qx]) rfl ?_
  refine W.eq (g2 := F0 m 925 ls ((Value.ref qx :: List.map Value.int [ya xs i 1]).reverse ++ [])) rfl ?_
  refine lw_cX lk_925 hz_88 C0 hK hJ [ya xs i 1] hl.1 rfl (Nat.le_of_ble_eq_true rfl) c1 (Or.inl rfl) e1 (fun v1 H1 locs1 hv1 hJ1 => ?_)
  obtain ⟨y1, hy1, hz1⟩ := lwV_i hv1 e1
  subst hy1
  show W p l e room_1 s m #[Value.ref b] below meth c H1 locs1 600000 7302250 (lw_Z below #[Value.ref b] s) (F0 m 928 ls [.int y1])
  have hS1 := hJ1
  obtain ⟨_, _, _, _, _, _, _, _, _, _, _, _, _, _, hS1⟩ := hS1
  refine lv_pop hx hb dL_law_928 rfl ?_
  refine lv_aload_n hx hb dL_law_929 rfl (lv_at hl 1 rfl) ?_
  refine lv_aload_n hx hb dL_law_930 rfl (lv_at hl 3 rfl) ?_
  refine lv_iload_n hx hb dL_law_931 rfl (lv_at hl 0 rfl) ?_
  refine lv_iconst (v := 1) hx hb dL_law_932 (by decide) ?_
  refine lv_iadd hx hb dL_law_933 ?_
  refine va_sld hx hb hX hbl hbA hS1 (lw_vin (k := 1) (j := 1) hL rfl (by omega) hi) dL_law_934 ?_
  refine W.eq (g2 := F0 m 935 ls [.int (ya xs i 1), .ref qm]) rfl ?_
  refine W.eq (g2 := F0 m 935 ls ((Value.ref qm :: List.map Value.int [ya xs i 1]).reverse ++ [])) rfl ?_
  refine lw_cM lk_935 hz_135 C0 hK hJ1 [ya xs i 1] hl.1 rfl (Nat.le_of_ble_eq_true rfl) c2 (Or.inl rfl) e2 (fun v2 H2 locs2 hv2 hJ2 => ?_)
  obtain ⟨y2, hy2, hz2⟩ := lwV_i hv2 e2
  subst hy2
  show W p l e room_1 s m #[Value.ref b] below meth c H2 locs2 600000 7302250 (lw_Z below #[Value.ref b] s) (F0 m 938 ls [.int y2])
  refine lv_pop hx hb dL_law_938 rfl ?_
  refine lv_goto (tgt := 942) hx hb dL_law_939 (by decide) ?_
  exact K _ _ _ _ ⟨q1, q2, hRR, hDD, hXR, hRW⟩ hJ2
