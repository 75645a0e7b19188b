set_option maxHeartbeats 4000000 in
set_option maxRecDepth 100000 in
theorem lw_loop {p : Program} {l : Launch} {e : Env} {s : State} {m : MethodId} {below : List Frame} {meth : Method} {c : Code} {b L : Nat} {xs : Nat → Int32} {D : va_G} {cy : Nat → ClassId} (C0 : lw_At p s m meth c b L xs) (hL : L ≤ 2048) (hK : rx_K D vwCl (tyl cy) nwl ocl s) {qx qm : Nat} : ∀ (k i : Nat) (AX AM : pm_A) (H : Heap) (locs : List Loc) (ls : Array Slot), L + 4 - i < k → i ≤ L + 4 → lwR AX AM → lwJ AX AM D cy s qx qm H locs → lv_has ls 4 [(3, .int (Int32.ofNat i)), (2, .ref qm), (1, .ref qx), (0, .ref b)] → W p l e room_1 s m #[Value.ref b] below meth c H locs 600000 7302250 (lw_Z below #[Value.ref b] s) (F0 m 18 ls []) := by
  obtain ⟨hx, hb, hr, hml, hown, hts, hX, hbl, hlocks, hgv⟩ := id C0
  have hbA : ¬ lA s b := Nat.not_le.mpr hbl
  intro k
  induction k with
  | zero => intro i AX AM H locs ls hk; omega
  | succ k ih =>
    intro i AX AM H locs ls hk hi4 hR hJ hl
    have hS := hJ
    obtain ⟨_, _, _, _, _, _, _, _, _, _, _, _, _, _, hS⟩ := hS
    refine lv_iload_n hx hb dL_law_18 rfl (lv_at hl 0 rfl) ?_
    refine lv_aload_n hx hb dL_law_19 rfl (lv_at hl 3 rfl) ?_
    refine va_slen hx hb hX hbl hbA hS dL_law_20 ?_
    refine lv_iconst (v := 4) hx hb dL_law_21 (by decide) ?_
    refine lv_isub hx hb dL_law_22 ?_
    by_cases hi : i + 4 ≤ L
    · refine lv_icmp_gt (tgt := 947) hx hb dL_law_23 (by decide) (fun h => absurd ((lw_gt hL (by omega)).mp h) (by omega)) (fun _ => ?_)
      refine lv_aload_n hx hb dL_law_26 rfl (lv_at hl 3 rfl) ?_
      refine lv_iload_n hx hb dL_law_27 rfl (lv_at hl 0 rfl) ?_
      refine va_sld hx hb hX hbl hbA hS (lw_vin0 hL hi) dL_law_28 ?_
      refine lv_bipush (v := 31) hx hb dL_law_29 (by decide) ?_
      refine lv_iand hx hb dL_law_31 ?_
      have K : ∀ (AX AM : pm_A) (H : Heap) (locs : List Loc), lwR AX AM → lwJ AX AM D cy s qx qm H locs → W p l e room_1 s m #[Value.ref b] below meth c H locs 600000 7302250 (lw_Z below #[Value.ref b] s) (F0 m 941 ls []) := fun AX AM H locs hR hJ => by
        refine lv_iinc (v := Int32.ofNat (i + 4)) (lv' := [(3, .int (Int32.ofNat (i + 4))), (2, .ref qm), (1, .ref qx), (0, .ref b)]) hx hb dL_law_941 hl (k := 0) rfl (Int32.ofNat_add i 4).symm (by decide) rfl (fun ls' hl' => ?_)
        refine lv_goto (tgt := 18) hx hb dL_law_944 (by decide) ?_
        exact ih (i + 4) AX AM H locs ls' (by omega) (by omega) hR hJ hl'
      obtain ⟨j, hj, ej⟩ := pk_andE (xs ((Int32.ofNat i).toNatClampNeg)) (m := 31) 5 (by decide)
      rw [ej]
      match j, hj with
      | 0, _ => exact lv_tableIn (off := 132) (tgt := 164) hx hb dL_law_32 (by decide) (by decide) (by decide) (by decide) (lw_c0 C0 hL hK hi hR hJ hl K)
      | 1, _ => exact lv_tableIn (off := 165) (tgt := 197) hx hb dL_law_32 (by decide) (by decide) (by decide) (by decide) (lw_c1 C0 hL hK hi hR hJ hl K)
      | 2, _ => exact lv_tableIn (off := 208) (tgt := 240) hx hb dL_law_32 (by decide) (by decide) (by decide) (by decide) (lw_c2 C0 hL hK hi hR hJ hl K)
      | 3, _ => exact lv_tableIn (off := 221) (tgt := 253) hx hb dL_law_32 (by decide) (by decide) (by decide) (by decide) (lw_c3 C0 hL hK hi hR hJ hl K)
      | 4, _ => exact lv_tableIn (off := 244) (tgt := 276) hx hb dL_law_32 (by decide) (by decide) (by decide) (by decide) (lw_c4 C0 hL hK hi hR hJ hl K)
      | 5, _ => exact lv_tableIn (off := 267) (tgt := 299) hx hb dL_law_32 (by decide) (by decide) (by decide) (by decide) (lw_c5 C0 hL hK hi hR hJ hl K)
      | 6, _ => exact lv_tableIn (off := 280) (tgt := 312) hx hb dL_law_32 (by decide) (by decide) (by decide) (by decide) (lw_c6 C0 hL hK hi hR hJ hl K)
      | 7, _ => exact lv_tableIn (off := 313) (tgt := 345) hx hb dL_law_32 (by decide) (by decide) (by decide) (by decide) (lw_c7 C0 hL hK hi hR hJ hl K)
      | 8, _ => exact lv_tableIn (off := 336) (tgt := 368) hx hb dL_law_32 (by decide) (by decide) (by decide) (by decide) (lw_c8 C0 hL hK hi hR hJ hl K)
      | 9, _ => exact lv_tableIn (off := 379) (tgt := 411) hx hb dL_law_32 (by decide) (by decide) (by decide) (by decide) (lw_c9 C0 hL hK hi hR hJ hl K)
      | 10, _ => exact lv_tableIn (off := 412) (tgt := 444) hx hb dL_law_32 (by decide) (by decide) (by decide) (by decide) (lw_c10 C0 hL hK hi hR hJ hl K)
      | 11, _ => exact lv_tableIn (off := 435) (tgt := 467) hx hb dL_law_32 (by decide) (by decide) (by decide) (by decide) (lw_c11 C0 hL hK hi hR hJ hl K)
      | 12, _ => exact lv_tableIn (off := 458) (tgt := 490) hx hb dL_law_32 (by decide) (by decide) (by decide) (by decide) (lw_c12 C0 hL hK hi hR hJ hl K)
      | 13, _ => exact lv_tableIn (off := 481) (tgt := 513) hx hb dL_law_32 (by decide) (by decide) (by decide) (by decide) (lw_c13 C0 hL hK hi hR hJ hl K)
      | 14, _ => exact lv_tableIn (off := 494) (tgt := 526) hx hb dL_law_32 (by decide) (by decide) (by decide) (by decide) (lw_c14 C0 hL hK hi hR hJ hl K)
      | 15, _ => exact lv_tableIn (off := 527) (tgt := 559) hx hb dL_law_32 (by decide) (by decide) (by decide) (by decide) (lw_c15 C0 hL hK hi hR hJ hl K)
      | 16, _ => exact lv_tableIn (off := 540) (tgt := 572) hx hb dL_law_32 (by decide) (by decide) (by decide) (by decide) (lw_c16 C0 hL hK hi hR hJ hl K)
      | 17, _ => exact lv_tableIn (off := 563) (tgt := 595) hx hb dL_law_32 (by decide) (by decide) (by decide) (by decide) (lw_c17 C0 hL hK hi hR hJ hl K)
      | 18, _ => exact lv_tableIn (off := 576) (tgt := 608) hx hb dL_law_32 (by decide) (by decide) (by decide) (by decide) (lw_c18 C0 hL hK hi hR hJ hl K)
      | 19, _ => exact lv_tableIn (off := 619) (tgt := 651) hx hb dL_law_32 (by decide) (by decide) (by decide) (by decide) (lw_c19 C0 hL hK hi hR hJ hl K)
      | 20, _ => exact lv_tableIn (off := 632) (tgt := 664) hx hb dL_law_32 (by decide) (by decide) (by decide) (by decide) (lw_c20 C0 hL hK hi hR hJ hl K)
      | 21, _ => exact lv_tableIn (off := 665) (tgt := 697) hx hb dL_law_32 (by decide) (by decide) (by decide) (by decide) (lw_c21 C0 hL hK hi hR hJ hl K)
      | 22, _ => exact lv_tableIn (off := 708) (tgt := 740) hx hb dL_law_32 (by decide) (by decide) (by decide) (by decide) (lw_c22 C0 hL hK hi hR hJ hl K)
      | 23, _ => exact lv_tableIn (off := 751) (tgt := 783) hx hb dL_law_32 (by decide) (by decide) (by decide) (by decide) (lw_c23 C0 hL hK hi hR hJ hl K)
      | 24, _ => exact lv_tableIn (off := 784) (tgt := 816) hx hb dL_law_32 (by decide) (by decide) (by decide) (by decide) (lw_c24 C0 hL hK hi hR hJ hl K)
      | 25, _ => exact lv_tableIn (off := 827) (tgt := 859) hx hb dL_law_32 (by decide) (by decide) (by decide) (by decide) (lw_c25 C0 hL hK hi hR hJ hl K)
      | 26, _ => exact lv_tableIn (off := 840) (tgt := 872) hx hb dL_law_32 (by decide) (by decide) (by decide) (by decide) (lw_c26 C0 hL hK hi hR hJ hl K)
      | 27, _ => exact lv_tableIn (off := 863) (tgt := 895) hx hb dL_law_32 (by decide) (by decide) (by decide) (by decide) (lw_c27 C0 hL hK hi hR hJ hl K)
      | 28, _ => exact lv_tableIn (off := 886) (tgt := 918) hx hb dL_law_32 (by decide) (by decide) (by decide) (by decide) (lw_c28 C0 hL hK hi hR hJ hl K)
      | 29, _ => exact lv_tableOut (tgt := 941) hx hb dL_law_32 (by decide) (by decide) (K AX AM H locs hR hJ)
      | 30, _ => exact lv_tableOut (tgt := 941) hx hb dL_law_32 (by decide) (by decide) (K AX AM H locs hR hJ)
      | 31, _ => exact lv_tableOut (tgt := 941) hx hb dL_law_32 (by decide) (by decide) (K AX AM H locs hR hJ)
      | j + 32, hj => exact absurd hj (by omega)
    · refine lv_icmp_gt (tgt := 947) hx hb dL_law_23 (by decide) (fun _ => ?_) (fun h => absurd ((lw_gt hL (by omega)).mpr (by omega)) h)
      refine lv_iconst (v := 1) hx hb dL_law_947 (by decide) ?_
      refine va_forget (fun q hq => hS.2.2 q hq) ?_
      exact lw_ret hx hb hr hlocks dL_law_948
set_option maxHeartbeats 4000000 in
set_option maxRecDepth 100000 in
theorem whole_start {p : Program} {e : Env} {s : State} {m : MethodId} {below : List Frame} {meth : Method} {c : Code} (l : Launch) {b L : Nat} {xs : Nat → Int32} (hL : L ≤ 2048) (C0 : lw_At p s m meth c b L xs) : W p l e room_1 s m #[Value.ref b] below meth c s.heap [] 0 0 (lw_Z below #[Value.ref b] s) (entryFrame m ([Value.ref b] : List Value).toArray 4) := by
  obtain ⟨hx, hb, hr, hml, hown, hts, hX, hbl, hlocks, hgv⟩ := id C0
  have hg : ∀ w ∈ gT, w.before #[Value.ref b] s = true := fun w hw => hts w (List.mem_filter.mp hw).1
  have hA : ∀ q : Nat, s.heap.size ≤ q → lA s q := fun _ h => h
  have hbA : ¬ lA s b := Nat.not_le.mpr hbl
  obtain ⟨D, cy, hK⟩ := lw_tables hts
  have hS : va_S (lA s) s.heap s.heap [] := va_S.rf
  have hP : va_P D vwCl [] s.heap := fun k q h => by simp at h
  have hD : va_D (lA s) [] := ⟨fun i j p q h => by simp at h, fun k q h => by simp at h⟩
  have hl := lv_entry ([.ref b]) (n := 4) (Nat.le_of_ble_eq_true rfl)
  rw [lg_entry_eq]
  generalize (lg_sl ([.ref b]) ++ List.replicate (4 - (lg_sl ([.ref b])).length) Slot.unset).toArray = ls at hl ⊢
  have hl : lv_has ls 4 [(0, .ref b)] := hl
  refine va_new (ci := 9) (fs := fs_X9) (C := RX9) (T := TX9) (N := 15) hx hb hg in_X9 tyX9 tyX9_ok hown (hg (.classLink "SeedBenchLaw" 7 "SeedBench") (gm_1 (List.mem_of_getElem? (i := 17) rfl) rfl)) (hg (.instantiable "SeedBench" 15) (gm_1 (List.mem_of_getElem? (i := 18) rfl) rfl)) (hg (.initialized "SeedBench") (gm_1 (List.mem_of_getElem? (i := 1) rfl) rfl)) hK.1 hP hD hS hA rfl df_X9 (show 0 + 1 ≤ 600000 by omega) (show 0 + 15 ≤ 7302250 by omega) dL_law_0 (fun qx H hP hD hS => ?_)
  have hP : va_P D vwCl [(qx, .inr (9, fs_X9))] H := hP
  have hD : va_D (lA s) [(qx, .inr (9, fs_X9))] := hD
  refine lv_dup hx hb dL_law_3 rfl ?_
  have hw0 : rx_w [qx] lwσ cy [.inl (9, fs_X9)] [(qx, .inr (9, fs_X9))] := ⟨rfl, rfl, fun k e hk => by
    match k, hk with
    | 0, hk => cases hk; exact ⟨qx, _, rfl, fs_X9, rfl, cs_X9 _ _⟩
    | k + 1, hk => simp at hk⟩
  obtain ⟨KX⟩ : Nonempty (∀ (ρ : List Nat) (cws : va_W) (sz : Nat) (ca : List Value), rx_w ρ lwσ cy [.inl (9, fs_X9)] cws → rx_l ρ lwσ [.ref 0] ca → Met l (mt 94).1 (rx_ws (gG l D cy lwσ) (mt 94)) (mt 94).2.2.2.2.1 (rx_Pc (gG l D cy lwσ) ca cws sz) (rx_Q (gG l D cy lwσ) ρ (none, WX) (va_A cws sz)) (mt 94).2.2.2.2.1.cells (mt 94).2.2.2.2.1.slots (va_A cws sz)) := ⟨fun ρ cws sz ca hw ha => (rx_sound mt_all _).1 94 _ _ _ ev_X ρ cws sz ca hw ha⟩
  have hrun := lk_4 p e s m #[Value.ref b] below meth c (lA s) H [] 1 15 ls [.ref qx] [.ref qx] _ _ _ (lw_X (l := l) C0 hK) hl.1 (KX [qx] _ H.size [.ref qx] hw0 ⟨⟨qx, rfl, rfl⟩, trivial⟩) (rx_Pc.blind _ _ _ _) (fun U hU hW => ⟨rfl, by rw [hU], by rw [hU]; exact hP, hK.warm hW, hD.weaken (fun _ _ _ _ => trivial)⟩) rfl (fun _ => lw_recv hw0 rfl rfl hK.1 hP rfl) (Nat.le_of_ble_eq_true rfl) (by rw [hz_94.1]; show 1 + 513 ≤ 600000; omega) (by rw [hz_94.2]; show 15 + 421477 ≤ 7302250; omega)
  refine lw_behind hrun hS (fun q _ hq => lw_in hD hS q hq) (lw_in hD hS) (fun v tx cX H1 locs1 ho hwx hPX hDX hk1 hS1 => ?_)
  have ho := lw_oN ho
  subst ho
  have hDX : va_D (lA s) cX := hDX.weaken (fun k q _ hq => lw_in hD hS q.1 hq)
  rw [hz_94.1, hz_94.2]
  refine W.widen (k := 514) (n := 421492) (by omega) (by omega) ?_
  show W p l e room_1 s m #[Value.ref b] below meth c H1 locs1 514 421492 (lw_Z below #[Value.ref b] s) (F0 m 7 ls [.ref qx])
  refine lv_astore_n (lv' := [(1, .ref qx), (0, .ref b)]) hx hb dL_law_7 rfl hl (by decide) rfl (fun ls hl => ?_)
  refine va_new (ci := 10) (fs := fs_X10) (C := RX10) (T := TX10) (N := 58) hx hb hg in_X10 tyX10 tyX10_ok hown (hg (.classLink "SeedBenchLaw" 10 "SeedBenchModel") (gm_4 (List.mem_of_getElem? (i := 131) rfl) rfl)) (hg (.instantiable "SeedBenchModel" 58) (gm_4 (List.mem_of_getElem? (i := 132) rfl) rfl)) (hg (.initialized "SeedBenchModel") (gm_1 (List.mem_of_getElem? (i := 12) rfl) rfl)) hK.1 hPX hDX hS1 hA rfl df_X10 (show 514 + 1 ≤ 600000 by omega) (show 421492 + 58 ≤ 7302250 by omega) dL_law_8 (fun qm H2 hP2 hD2 hS2 => ?_)
  refine lv_dup hx hb dL_law_11 rfl ?_
  have hw1 : rx_w [qm] lwσ cy [.inl (10, fs_X10)] [(qm, .inr (10, fs_X10))] := ⟨rfl, rfl, fun k e hk => by
    match k, hk with
    | 0, hk => cases hk; exact ⟨qm, _, rfl, fs_X10, rfl, cs_X10 _ _⟩
    | k + 1, hk => simp at hk⟩
  obtain ⟨KM⟩ : Nonempty (∀ (ρ : List Nat) (cws : va_W) (sz : Nat) (ca : List Value), rx_w ρ lwσ cy [.inl (10, fs_X10)] cws → rx_l ρ lwσ [.ref 0] ca → Met l (mt 152).1 (rx_ws (gG l D cy lwσ) (mt 152)) (mt 152).2.2.2.2.1 (rx_Pc (gG l D cy lwσ) ca cws sz) (rx_Q (gG l D cy lwσ) ρ (none, WM) (va_A cws sz)) (mt 152).2.2.2.2.1.cells (mt 152).2.2.2.2.1.slots (va_A cws sz)) := ⟨fun ρ cws sz ca hw ha => (rx_sound mt_all _).1 152 _ _ _ ev_M ρ cws sz ca hw ha⟩
  have hPm := lw_right hP2
  have hDm := lw_rightD hD2
  have hrun2 := lk_12 p e s m #[Value.ref b] below meth c (lA s) H2 locs1 515 421550 ls [.ref qm] [.ref qm] _ _ _ (lw_X (l := l) C0 hK) hl.1 (KM [qm] _ H2.size [.ref qm] hw1 ⟨⟨qm, rfl, rfl⟩, trivial⟩) (rx_Pc.blind _ _ _ _) (fun U hU hW => ⟨rfl, by rw [hU], by rw [hU]; exact hPm, hK.warm hW, hDm.weaken (fun _ _ _ _ => trivial)⟩) rfl (fun _ => lw_recv hw1 rfl rfl hK.1 hPm rfl) (Nat.le_of_ble_eq_true rfl) (by rw [hz_152.1]; show 515 + 38 ≤ 600000; omega) (by rw [hz_152.2]; show 421550 + 536755 ≤ 7302250; omega)
  refine lw_behind hrun2 hS2 (fun q _ hq => lw_in hDm hS2 q hq) (lw_in hDm hS2) (fun v tm cM H3 locs3 ho hwm hPM hDM hk3 hS3 => ?_)
  have ho := lw_oN ho
  subst ho
  obtain ⟨hP3, hD3⟩ := lw_join hP2 hD2 hk3 (lw_in hDm hS2) hPM hDM
  rw [hz_152.1, hz_152.2]
  refine W.widen (k := 600000) (n := 7302250) (by omega) (by omega) ?_
  show W p l e room_1 s m #[Value.ref b] below meth c H3 locs3 600000 7302250 (lw_Z below #[Value.ref b] s) (F0 m 15 ls [.ref qm])
  refine lv_astore_n (lv' := [(2, .ref qm), (1, .ref qx), (0, .ref b)]) hx hb dL_law_15 rfl hl (by decide) rfl (fun ls hl => ?_)
  refine lv_iconst (v := 0) hx hb dL_law_16 (by decide) ?_
  refine lv_istore_n (lv' := [(3, .int 0), (2, .ref qm), (1, .ref qx), (0, .ref b)]) hx hb dL_law_17 rfl hl (by decide) rfl (fun ls hl => ?_)
  exact lw_loop C0 hL hK _ 0 (wA WX) (wA WM) H3 locs3 ls (Nat.lt_succ_self _) (Nat.zero_le _) ⟨st_first, ri_first, rr_first, dt_first, xr_first, rw_first, bk_first, ft_first⟩ ⟨[qx] ++ tx, [qm] ++ tm, cX, cM, WX, WM, hwx, wx_all.1, hwm, wm_all.1, rfl, rfl, hP3, hD3, hS3⟩ hl
-- ===== YOUR PART ENDS =====
set_option maxHeartbeats 4000000 in
theorem lw_walk (l : Launch) (b : Addr) (xs : List Int32) : MetFree l x (headSpec (Jvm.Cond.code x code maxLocals ret :: tables_1) room_1) (lw_P b xs) (fun _ _ _ _ _ => True) lw_Q := by
  refine MetFree.of_bodyS (code := code) (maxLocals := maxLocals) (ret := ret) (by decide) ?_ ?_
  · intro args s m h hn
    obtain ⟨meth, c, h1, h2, h3, h4, h5, h6, -, -⟩ := Cond.code_spec hn (atoms_spec (ws := Jvm.Cond.code x code maxLocals ret :: tables_1) h _ List.mem_cons_self)
    exact ⟨meth, c, h1, h2, h3, h4, h5, h6⟩
  · intro p e s m args below meth c s₁ B hml0 hP _
    obtain ⟨rfl, hx, hbd, hgv⟩ := hP
    obtain ⟨scr, harrAt, hlist, hof, hsmall⟩ := hx
    obtain ⟨hcb, hkn, -, -⟩ := State.arrayAt?_spec harrAt
    have hown : s.vm.findClass R_law = some m.cls := findClass_of_methodNamed B.named
    have hts0 : ∀ c ∈ (Jvm.Cond.code x code maxLocals ret :: tables_1), c.before #[Value.ref b] s = true := atoms_spec (ws := Jvm.Cond.code x code maxLocals ret :: tables_1) B.pre
    have hts : ∀ w ∈ lw_tbl, w.before #[Value.ref b] s = true := k2_hts_sels lw_privs (fun w hw => hts0 w (List.mem_cons_of_mem _ hw)) lw_privs_ok
    have hml : c.maxLocals = 4 := B.maxLocals_eq (hts0 _ List.mem_cons_self)
    have X₀ : Stand p l e room_1 s m #[Value.ref b] below meth c s₁ [] 0 0 := Stand.of_body B
    have hh0 : s₁.heap = s.heap := by rw [B.state]; rfl
    have hsz : scr.slots.size = xs.length := by rw [← Array.length_toList, hlist, List.length_map]
    have hval : ∀ j : Nat, j < xs.length → scr.slots[j]? = some (.int (xs.getD j 0)) := fun j hj => by
      rw [← Array.getElem?_toList, hlist]
      simp [hj]
    have hbl : b < s.heap.size := (Array.getElem?_eq_some_iff.mp hcb).1
    have hX : va_X b xs.length (fun j => xs.getD j 0) s s.heap := ⟨scr, hcb, hof, hkn, hsz, hval⟩
    have K : W p l e room_1 s m #[Value.ref b] below meth c s₁.heap [] 0 0 (lw_Z below #[Value.ref b] s) (entryFrame m ([Value.ref b] : List Value).toArray 4) := by
      rw [hh0]
      exact whole_start l hbd ⟨B.exec, B.bytes, B.returns, hml, hown, hts, hX, hbl, B.notSynchronized, hgv⟩
    obtain ⟨t, a1, o, b1, b2, b3⟩ := K s₁ rfl X₀
    exact ⟨t, o, a1, b1, b2, b3⟩
theorem lw_pre_spec {args : Array Value} {s : State} (h : (Jvm.Cond.and given_1 narrow_1).before args s = true) (hr : rest_1_c.before args s = true) : ∃ (b : Addr) (xs : List Int32), lw_P b xs args s := by
  have hs := flat_of_before _ h
  have hq := flat_of_before _ hr
  have hc : (Cond.count 1).before args s = true := hs _ (by decide +kernel)
  have harr : (Cond.arrayOf (.arg 0) .int).before args s = true := hs _ (by decide +kernel)
  have hle : (Cond.le (.length (.arg 0)) (.int 2048)).before args s = true := hs _ (by decide +kernel)
  have hlen : (Cond.isInt (.length (.arg 0))).before args s = true := hq _ (by decide +kernel)
  have hall : (Cond.all (.arg 0) (.isInt (.elem (.arg 0) (.index 0)))).before args s = true := hq _ (by decide +kernel)
  obtain ⟨b, xs, hb, hx⟩ := State.ints_of_pre rfl harr hlen hall
  have hsm : xs.length < 2 ^ 31 := hx.choose_spec.2.2.2
  have hev : (Term.length (.arg 0)).eval args s none [] s = some (.int xs.length.toInt32) := hx.length_eval hb
  have hv := Cond.le_ints hev (show (Term.int 2048).eval args s none [] s = some (.int 2048) from rfl)
  have hd : xs.length.toInt32 ≤ 2048 := by
    simpa [Cond.before, Cond.holds, hv] using hle
  have hN : xs.length ≤ 2048 := (Int32.ofNat_le_ofNat hsm (by decide)).mp (show Int32.ofNat xs.length ≤ Int32.ofNat 2048 from hd)
  exact ⟨b, xs, Cond.one_arg hc (show args[0]? = some (.ref b) from hb), hx, hN, h⟩
theorem lw_comes (l : Launch) : Comes l x (Jvm.Cond.code x code maxLocals ret :: tables_1) room_1 (fun tb e args s => Calls_1 tb e args s ∧ rest_1 tb e args s ∧ Pre_1 tb e args s)
    (fun _ _ args s o t => lw_Q args s o t) := by
  intro p e ha hc hk s m args below hf hfit hheap happ hpre
  obtain ⟨b, xs, hP⟩ := lw_pre_spec hpre.2.2 hpre.2.1
  obtain ⟨k, o, h1, h2, h3, hQ⟩ := lw_walk l b xs p e ha hc hk s m args below hf ((Spec.applies_iff_loose hf).mp happ).1 hP trivial
  exact ⟨k, o, h1, h2, h3, hQ⟩
theorem lw_frame {s t : State} {o : Outcome} {args : Array Value} (h : Framed s o t [] 600000 7302250) :
    Framed s o t (fieldLocs frame_1_writes args s ++ arrayLocs frame_1_arrays args s ++ staticLocs frame_1_statics s) 600000 7302250 := h
theorem lw_limb (L : Cond) (hL : ∀ (args : Array Value) (s t : State), L.after args s (.returned (some (.int 1))) t = true) :
    ArmFor flags0 classFile x code maxLocals ret World_1 tables_1 room_1 Calls_1 rest_1 Pre_1
      (fun tb e a s o t => postC L tb e a s o t ∧ Framed s o t (fieldLocs frame_1_writes a s ++ arrayLocs frame_1_arrays a s ++ staticLocs frame_1_statics s) 600000 7302250) := by
  intro l _ _ _ p e ha hc hk s m args below hf hfit hheap happ hpre
  obtain ⟨k, o, h1, h2, h3, rfl, hF⟩ := lw_comes l p e ha hc hk s m args below hf hfit hheap happ hpre
  exact ⟨k, _, h1, h2, h3, hL args s _, lw_frame hF⟩
theorem i_vc : Claimed_1_1 ∧ Claimed_1_2 := ⟨lw_limb limb_1_1 (fun args s t => by simp [limb_1_1, Cond.after, Cond.holds, Cond.value]), lw_limb limb_1_2 (fun args s t => Cond.after_iff.mpr (by
  first | (rw [show limb_1_2 = Cond.eq .result (.int 1) from rfl, Cond.eq_ints (x := 1) (y := 1) rfl rfl]; simp; done) | (simp [limb_1_2, Cond.value, Term.eval]; done)))⟩
