/-! the kinds' check is right -/
theorem ks_pick_s {args ms : List Nat} : ∀ {l : List ks_Q} {r : Nat}, ks_pick args ms l = some r → ∃ c, c ∈ l ∧ ks_le args c.1 = true ∧ ks_sub c.2.2 ms = true ∧ c.2.1 = r
  | [], _, h => by cases h
  | c :: t, r, h => by
    simp only [ks_pick] at h
    cases hb : (ks_le args c.1 && ks_sub c.2.2 ms) with
    | true =>
      rw [hb] at h
      rw [Bool.and_eq_true] at hb
      exact ⟨c, List.mem_cons_self, hb.1, hb.2, Option.some.inj h⟩
    | false =>
      rw [hb] at h
      obtain ⟨c', q1, q2⟩ := ks_pick_s (l := t) h
      exact ⟨c', List.mem_cons_of_mem _ q1, q2⟩
theorem gFk_sub {w : an_W} {ms ms' : List Nat} {A B : pm_A} (h : gFk w ms A B) (hs : ks_sub ms ms' = true) : gFk w ms' A B := fun r j r0 j0 hn => h r j r0 j0 (fun q => hn (List.contains_iff_mem.mp (List.all_eq_true.mp hs _ q)))
theorem gFk_trn {w : an_W} {ms : List Nat} {A B C : pm_A} (h : gFk w ms A B) (h' : gFk w ms B C) : gFk w ms A C := fun r j r0 j0 hn => (h' r j r0 j0 hn).trans (h r j r0 j0 hn)
theorem ksF_el {w : an_W} {r : Int} {k : Nat} {kk : an_K} (e : w.2 r = k) (hk : w.1[w.2 r]? = some kk) (b : Nat) : ks_f w k b = ks_d kk.2.2.2 b := by unfold ks_f; rw [← e, hk]
theorem ks_d_n (l : List an_V) (b : Nat) : ¬ ks_d l b = 1 ∧ ¬ ks_d l b = 2 := by
  unfold ks_d
  split
  · next a _ =>
    cases (Nat.beq a.1 2 && decide (a.2.2 = 0)) with
    | true => show ¬ (a.2.1.toNat + 3 = 1) ∧ ¬ (a.2.1.toNat + 3 = 2); omega
    | false => show ¬ ((0 : Nat) = 1) ∧ ¬ ((0 : Nat) = 2); omega
  · omega
set_option maxHeartbeats 4000000 in
theorem ks_op_ok {w : an_W} {CT : Nat → List ks_Q} {rec : pm_C} (hR : ksRec w CT rec) {Q : ks_Q} {o : pm_Op} {s : ks_S} {succ : List (Nat × ks_S)} (h : ks_op w CT Q o s = some succ) {A0 : pm_A} {c : pm_S} (hg : ksG w Q.2.2 A0 s c) {out : pm_O} (hs : pm_step (an_sh w) rec o c = some out) : ksOut w Q A0 succ out := by
  obtain ⟨nx, code, a, b, cc, z, ts⟩ := o
  obtain ⟨L, K⟩ := s
  obtain ⟨Lc, Kc, A⟩ := c
  obtain ⟨hL, hK, hH, hF⟩ := hg
  simp only at hL hK hH hF
  have one : ∀ {pc : Nat} {S : ks_S} {C : pm_S}, ksG w Q.2.2 A0 S C → ksOut w Q A0 [(pc, S)] (.inl (pc, C)) := fun g => ⟨_, List.mem_singleton.mpr rfl, g⟩
  have n1 : ∀ {x : Int}, kv w 1 (0, x) := fun {x} => by show ¬ (0 : Nat) = 1; decide
  have n2 : kv w 1 (2, -1) := by show ¬ (2 : Nat) = 1; decide
  have psh : ∀ {x : Nat} {K : List Nat} {v : pm_V} {Kc : List pm_V}, kv w x v → kvl w K Kc → ksOut w Q A0 [(nx, (L, x :: K))] (.inl (nx, (Lc, v :: Kc, A))) := fun h1 h2 => one ⟨hL, ⟨h1, h2⟩, hH, hF⟩
  match code, h, hs with
  | 0, h, hs => cases h; cases hs; exact psh n1 hK
  | 1, h, hs => cases h; cases hs; exact psh rfl hK
  | 2, h, hs => cases h; cases hs; exact psh n2 hK
  | 26, h, hs => cases h; cases hs; exact psh n1 hK
  | 27, h, hs => cases h; cases hs; exact psh rfl hK
  | 3, h, hs =>
    simp only [pm_step] at hs
    simp only [ks_op] at h
    split at hs
    · next v hv =>
      obtain ⟨_, rfl⟩ := k_if_s hs
      obtain ⟨x, hx, hkv⟩ := kvl_at hL hv
      rw [hx] at h
      cases h
      exact psh hkv hK
    · cases hs
  | 4, h, hs =>
    simp only [pm_step] at hs
    simp only [ks_op] at h
    obtain ⟨v, Kc', rfl, hs_1⟩ := k_v_s hs
    obtain ⟨hd, rfl⟩ := k_if_s hs_1
    split at h
    · next x K' =>
      cases h
      refine one ⟨?_, hK.2, hH, hF⟩
      have hk := kvl_kill hL b
      by_cases ea : a = 1
      · subst ea
        rw [if_pos rfl]
        show kvl w (((ks_kill L b).set b _).set (b + 1) 1) (((pm_kill Lc b).set b v).set (b + 1) (9, 0))
        exact kvl_set (kvl_set hk b hK.1) (b + 1) (by show ¬ (9 : Nat) = 1; decide)
      · rw [if_neg ea]
        have eb : Nat.beq a 1 = false := by rw [← Bool.not_eq_true]; exact fun q => ea (Nat.eq_of_beq_eq_true q)
        show kvl w (cond (Nat.beq a 1) (((ks_kill L b).set b _).set (b + 1) 1) ((ks_kill L b).set b _)) ((pm_kill Lc b).set b v)
        rw [eb]
        exact kvl_set hk b hK.1
    · cases h
  | 5, h, hs =>
    simp only [pm_step] at hs
    cases h
    split at hs
    · obtain ⟨_, rfl⟩ := k_if_s hs
      exact one ⟨kvl_set (kvl_kill hL a) a n1, hK, hH, hF⟩
    · cases hs
  | 6, h, hs =>
    simp only [pm_step] at hs
    obtain ⟨x1, K1, rfl, h_2⟩ := ks_p1_s h
    obtain ⟨x2, K2, rfl, h_3⟩ := ks_p1_s h_2
    cases h_3
    obtain ⟨y, x, Kc', rfl, hs_4⟩ := k_ii_s hs
    cases hs_4
    exact psh n1 hK.2.2
  | 7, h, hs =>
    simp only [pm_step] at hs
    obtain ⟨x1, K1, rfl, h_5⟩ := ks_p1_s h
    obtain ⟨x2, K2, rfl, h_6⟩ := ks_p1_s h_5
    cases h_6
    obtain ⟨y, x, Kc', rfl, hs_7⟩ := k_ii_s hs
    split at hs_7
    · cases hs_7
    · cases hs_7; exact psh n1 hK.2.2
  | 8, h, hs =>
    simp only [pm_step] at hs
    obtain ⟨x1, K1, rfl, h_8⟩ := ks_p1_s h
    obtain ⟨x2, K2, rfl, h_9⟩ := ks_p1_s h_8
    cases h_9
    obtain ⟨y, x, Kc', rfl, hs_10⟩ := k_ll_s hs
    cases hs_10
    exact psh rfl hK.2.2
  | 9, h, hs =>
    simp only [pm_step] at hs
    obtain ⟨x1, K1, rfl, h_11⟩ := ks_p1_s h
    obtain ⟨x2, K2, rfl, h_12⟩ := ks_p1_s h_11
    cases h_12
    obtain ⟨y, x, Kc', rfl, hs_13⟩ := k_ll_s hs
    split at hs_13
    · cases hs_13
    · cases hs_13; exact psh rfl hK.2.2
  | 10, h, hs =>
    simp only [pm_step] at hs
    obtain ⟨x1, K1, rfl, h_14⟩ := ks_p1_s h
    obtain ⟨x2, K2, rfl, h_15⟩ := ks_p1_s h_14
    cases h_15
    obtain ⟨y, x, Kc', rfl, hs_16⟩ := k_il_s hs
    cases hs_16
    exact psh rfl hK.2.2
  | 11, h, hs =>
    simp only [pm_step] at hs
    split at hs
    · next K' hu =>
      cases hs
      simp only [ks_op] at h
      unfold pp_un at hu
      split at h
      · obtain ⟨x1, K1, rfl, h_17⟩ := ks_p1_s h
        cases h_17
        simp only at hu
        split at hu
        · cases hu; exact psh n1 hK.2
        · cases hu
      · obtain ⟨x1, K1, rfl, h_18⟩ := ks_p1_s h
        cases h_18
        simp only at hu
        split at hu
        · cases hu; exact psh rfl hK.2
        · cases hu
      · obtain ⟨x1, K1, rfl, h_19⟩ := ks_p1_s h
        cases h_19
        simp only at hu
        split at hu
        · cases hu; exact psh rfl hK.2
        · cases hu
      · obtain ⟨x1, K1, rfl, h_20⟩ := ks_p1_s h
        cases h_20
        simp only at hu
        split at hu
        · cases hu; exact psh n1 hK.2
        · cases hu
      · obtain ⟨x1, K1, rfl, h_21⟩ := ks_p1_s h
        obtain ⟨x2, K2, rfl, h_22⟩ := ks_p1_s h_21
        cases h_22
        simp only at hu
        split at hu
        · cases hu; exact psh n1 hK.2.2
        · cases hu
      · split at h
        · cases h
          simp only at hu
          split at hu
          · cases hu; exact psh hK.1 ⟨hK.1, hK.2⟩
          · cases hu; exact psh hK.1 ⟨hK.1, hK.2⟩
          · cases hu
        · cases h
      · split at h
        · cases h
          simp only at hu
          split at hu
          · cases hu; exact psh hK.1 ⟨hK.2.1, hK.1, hK.2.1, hK.2.2⟩
          · cases hu; exact psh hK.1 ⟨hK.2.1, hK.1, hK.2.1, hK.2.2⟩
          · cases hu
        · cases h
      · next n0 n1 n2 n3 n4 n5 n6 =>
        obtain ⟨x1, K1, rfl, h_23⟩ := ks_p1_s h
        cases h_23
        split at hu
        · exact absurd rfl n0
        · exact absurd rfl n1
        · exact absurd rfl n2
        · exact absurd rfl n3
        · exact absurd rfl n4
        · exact absurd rfl n5
        · exact absurd rfl n6
        · split at hu
          · cases hu; exact one ⟨hL, hK.2, hH, hF⟩
          · cases hu; exact one ⟨hL, hK.2, hH, hF⟩
          · cases hu
    · cases hs
  | 12, h, hs => cases h; cases hs; exact one ⟨hL, hK, hH, hF⟩
  | 13, h, hs =>
    simp only [pm_step] at hs
    obtain ⟨x1, K1, rfl, h_24⟩ := ks_p1_s h
    cases h_24
    obtain ⟨x, Kc', rfl, hs_25⟩ := k_r_s hs
    cases hs_25
    have g : ksG w Q.2.2 A0 (L, K1) (Lc, Kc', A) := ⟨hL, hK.2, hH, hF⟩
    by_cases hx : x < 0
    · rw [if_pos hx]; exact ⟨_, List.mem_cons_self, g⟩
    · rw [if_neg hx]; exact ⟨_, List.mem_cons_of_mem _ (List.mem_singleton.mpr rfl), g⟩
  | 14, h, hs =>
    simp only [pm_step] at hs
    obtain ⟨x1, K1, rfl, h_26⟩ := ks_p1_s h
    obtain ⟨x2, K2, rfl, h_27⟩ := ks_p1_s h_26
    cases h_27
    obtain ⟨y, x, Kc', rfl, hs_28⟩ := k_ii_s hs
    cases hs_28
    have g : ksG w Q.2.2 A0 (L, K2) (Lc, Kc', A) := ⟨hL, hK.2.2, hH, hF⟩
    cases pp_tst a x y with
    | true => exact ⟨_, List.mem_cons_self, g⟩
    | false => exact ⟨_, List.mem_cons_of_mem _ (List.mem_singleton.mpr rfl), g⟩
  | 15, h, hs =>
    simp only [pm_step] at hs
    obtain ⟨x1, K1, rfl, h_29⟩ := ks_p1_s h
    cases h_29
    obtain ⟨x, Kc', rfl, hs_30⟩ := k_i_s hs
    cases hs_30
    have g : ksG w Q.2.2 A0 (L, K1) (Lc, Kc', A) := ⟨hL, hK.2, hH, hF⟩
    cases pp_tst a x 0 with
    | true => exact ⟨_, List.mem_cons_self, g⟩
    | false => exact ⟨_, List.mem_cons_of_mem _ (List.mem_singleton.mpr rfl), g⟩
  | 16, h, hs =>
    simp only [pm_step] at hs
    obtain ⟨x1, K1, rfl, h_31⟩ := ks_p1_s h
    cases h_31
    obtain ⟨x, Kc', rfl, hs_32⟩ := k_i_s hs
    have g : ksG w Q.2.2 A0 (L, K1) (Lc, Kc', A) := ⟨hL, hK.2, hH, hF⟩
    split at hs_32
    · cases hs_32; exact ⟨_, List.mem_cons_self, g⟩
    · split at hs_32
      · next t ht => cases hs_32; exact ⟨_, List.mem_cons_of_mem _ (List.mem_map.mpr ⟨t, List.mem_of_getElem? ht, rfl⟩), g⟩
      · cases hs_32
  | 17, h, hs =>
    simp only [pm_step] at hs
    simp only [ks_op] at h
    obtain ⟨r, Kc', rfl, hs_33⟩ := k_r_s hs
    obtain ⟨hd, rfl⟩ := k_if_s hs_33
    have hd := of_decide_eq_true hd
    have ft : pm_ftk a b < 3 := by unfold pm_ftk; split <;> decide
    split at h
    · next c K' =>
      split at h
      · next k hc =>
        cases h
        obtain ⟨kk, hk, hsh⟩ := kd_at (Or.inl hd.2.1)
        rw [hsh] at hd
        have e := ksF_el (ks_rk_ok hc hK.1 hk hd.2.1 hd.2.2.1) hk b
        have g := (hH r kk hd.1 hk).1 hd.2.1 b
        rw [← e] at g
        exact psh (ks_tg_ok g ft) hK.2
      · cases h
    · cases h
  | 18, h, hs =>
    simp only [pm_step] at hs
    simp only [ks_op] at h
    obtain ⟨v, r, Kc', rfl, hs_34⟩ := k_vr_s hs
    obtain ⟨hd, rfl⟩ := k_if_s hs_34
    have hd := of_decide_eq_true hd
    split at h
    · next x c K' =>
      split at h
      · next k hcl =>
        obtain ⟨hc, h⟩ := rx_cond_some h
        cases h
        rw [Bool.and_eq_true, Bool.or_eq_true] at hc
        obtain ⟨kk, hk, hsh⟩ := kd_at (Or.inl hd.2.1)
        have ek := ks_rk_ok hcl hK.2.1 hk (by rw [hsh] at hd; exact hd.2.1) (by rw [hsh] at hd; exact hd.2.2.1)
        have e := ksF_el ek hk b
        refine one ⟨hL, hK.2.2, gK_put hH hk (fun h0 j hj => ?_) (fun h1 => ?_), gFk_put hF (fun _ _ => ?_)⟩
        · have : j = b := by omega
          subst this
          rw [← e]
          rcases hc.2 with q | q
          · exact kv_none q
          · have q := Nat.eq_of_beq_eq_true q
            have hv := hK.1
            rw [q] at hv
            match hz : ks_f w k j, hv with
            | 0, _ => trivial
            | 1, _ => rw [hz] at e; exact absurd e.symm (ks_d_n _ _).1
            | 2, _ => rw [hz] at e; exact absurd e.symm (ks_d_n _ _).2
            | y + 3, hv => exact ⟨rfl, hv.2⟩
        · rw [hsh] at hd; simp only at hd; omega
        · rw [kc_0 hd.2.1, ek, Int.toNat_natCast]
          exact List.contains_iff_mem.mp hc.1
      · cases h
    · cases h
  | 19, h, hs =>
    simp only [pm_step] at hs
    simp only [ks_op] at h
    obtain ⟨i, r, Kc', rfl, hs_35⟩ := k_ir_s hs
    obtain ⟨hd, rfl⟩ := k_if_s hs_35
    have hd := of_decide_eq_true hd
    have ft : pm_kd a < 3 := by unfold pm_kd; split <;> decide
    split at h
    · next x k K' =>
      cases h
      have hr := hK.2.1
      obtain ⟨kk, hk, hsh⟩ := kd_at (Or.inr hd.2.1)
      rw [hsh] at hd
      have e := ksF_el hr.2.2 hk 0
      have g := (hH r kk hd.1 hk).2 hd.2.1 i hd.2.2.2.1 hd.2.2.2.2
      rw [← e] at g
      exact psh (ks_tg_ok g ft) hK.2.2
    · cases h
      exact psh (ks_tg_ok trivial ft) hK.2.2
    · cases h
  | 20, h, hs =>
    simp only [pm_step] at hs
    simp only [ks_op] at h
    obtain ⟨v, i, r, Kc', rfl, hs_36⟩ := k_vir_s hs
    obtain ⟨hd, rfl⟩ := k_if_s hs_36
    have hd := of_decide_eq_true hd
    split at h
    · next x y k K' =>
      obtain ⟨hc, h⟩ := rx_cond_some h
      cases h
      rw [Bool.and_eq_true] at hc
      have hr := hK.2.2.1
      obtain ⟨kk, hk, hsh⟩ := kd_at (Or.inr hd.2.1)
      have e := ksF_el hr.2.2 hk 0
      refine one ⟨hL, hK.2.2.2, gK_put hH hk (fun h0 => ?_) (fun _ => by rw [← e]; exact kv_none hc.2), gFk_put hF (fun _ _ => ?_)⟩
      · rw [hsh] at hd; simp only at hd; omega
      · rw [kc_1 hd.2.1, hr.2.2]; exact List.contains_iff_mem.mp hc.1
    · cases h
  | 21, h, hs =>
    simp only [pm_step] at hs
    simp only [ks_op] at h
    obtain ⟨q, i, r, Kc', rfl, hs_37⟩ := k_rir_s hs
    obtain ⟨hd, rfl⟩ := k_if_s hs_37
    have hd := of_decide_eq_true hd
    split at h
    · next x y k K' =>
      obtain ⟨hc, h⟩ := rx_cond_some h
      cases h
      rw [Bool.and_eq_true, Bool.or_eq_true] at hc
      have hr := hK.2.2.1
      obtain ⟨kk, hk, hsh⟩ := kd_at (Or.inr hd.2.1)
      have e := ksF_el hr.2.2 hk 0
      refine one ⟨hL, hK.2.2.2, gK_put hH hk (fun h0 => ?_) (fun _ => ?_), gFk_put hF (fun _ _ => ?_)⟩
      · rw [hsh] at hd; simp only at hd; omega
      · rw [← e]
        rcases hc.2 with q | q
        · exact kv_none q
        · rw [← Nat.eq_of_beq_eq_true q]; exact hK.1
      · rw [kc_1 hd.2.1, hr.2.2]; exact List.contains_iff_mem.mp hc.1
    · cases h
  | 22, h, hs =>
    simp only [pm_step] at hs
    obtain ⟨x1, K1, rfl, h_38⟩ := ks_p1_s h
    cases h_38
    obtain ⟨r, Kc', rfl, hs_39⟩ := k_r_s hs
    obtain ⟨_, rfl⟩ := k_if_s hs_39
    exact psh n1 hK.2
  | 23, h, hs =>
    simp only [pm_step] at hs
    simp only [ks_op] at h
    split at h
    · next rt hp =>
      cases h
      obtain ⟨c, c1, c2, c3, rfl⟩ := ks_pick_s hp
      obtain ⟨t1, t2⟩ := kvl_take b hK
      split at hs
      · split at hs
        · cases hs
        · next v A' hv =>
          cases hs
          obtain ⟨p1, p2, p3⟩ := hR a c c1 _ _ _ (kvl_le c2 (kvl_rev t1)) hH hv
          exact one ⟨hL, kvl_app (kvo_l p1) t2, p2, gFk_trn hF (gFk_sub p3 c3)⟩
      · cases hs
    · cases h
  | 24, h, hs =>
    simp only [pm_step] at hs
    simp only [ks_op] at h
    obtain ⟨hc, h⟩ := rx_cond_some h
    split at hs
    · cases hs
      refine ⟨?_, hH, hF⟩
      rw [Nat.eq_of_beq_eq_true hc]; trivial
    · cases hs
  | 25, h, hs =>
    simp only [pm_step] at hs
    simp only [ks_op] at h
    split at hs
    · next v =>
      split at hs
      · cases hs
        split at h
        · next x =>
          obtain ⟨hc, h⟩ := rx_cond_some h
          refine ⟨?_, hH, hF⟩
          rw [Bool.and_eq_true] at hc
          have q1 := Nat.le_of_ble_eq_true hc.1
          obtain ⟨y, hy⟩ : ∃ y, Q.2.1 = y + 1 := ⟨Q.2.1 - 1, by omega⟩
          rw [hy]
          rw [hy, Nat.add_sub_cancel] at hc
          exact kv_le hc.2 hK.1
        · cases h
      · cases hs
    · cases hs
  | 28, h, hs =>
    simp only [pm_step] at hs
    simp only [ks_op] at h
    obtain ⟨n, dp, q, sp, p, Kc', rfl, hs_40⟩ := k_cp_s hs
    obtain ⟨hd, rfl⟩ := k_if_s hs_40
    have hd := of_decide_eq_true hd
    split at h
    · next x1 x2 k x3 x4 K' =>
      obtain ⟨hc, h⟩ := rx_cond_some h
      cases h
      rw [Bool.and_eq_true] at hc
      have hr := hK.2.2.1
      obtain ⟨kk, hk, hsh⟩ := kd_at (Or.inr hd.2.2.2.2.1)
      have e := ksF_el hr.2.2 hk 0
      refine one ⟨hL, hK.2.2.2.2.2, fun r' k' r0 hk' => ?_, fun r' j r0 j0 hn => ?_⟩
      · obtain ⟨g1, g2⟩ := hH r' k' r0 hk'
        unfold pm_cpy
        refine ⟨fun h0 j => ?_, fun h1 j j0 j1 => ?_⟩
        · show kv w (ks_d k'.2.2.2 j) (2, if r' = q ∧ dp ≤ (j : Int) ∧ (j : Int) < dp + n then A p (sp + ((j : Int) - dp)) else A r' j)
          rw [if_neg (fun e => ?_)]
          · exact g1 h0 j
          · rw [e.1, hk] at hk'
            cases hk'
            rw [hsh] at hd; simp only at hd; omega
        · show kv w (ks_d k'.2.2.2 0) (2, if r' = q ∧ dp ≤ j ∧ j < dp + n then A p (sp + (j - dp)) else A r' j)
          split
          · next e2 =>
            rw [e2.1, hk] at hk'
            cases hk'
            rw [← e]; exact kv_none hc.2
          · exact g2 h1 j j0 j1
      · unfold pm_cpy
        show (if r' = q ∧ dp ≤ j ∧ j < dp + n then A p (sp + (j - dp)) else A r' j) = A0 r' j
        rw [if_neg (fun e2 => ?_)]
        · exact hF r' j r0 j0 hn
        · apply hn
          rw [e2.1, kc_1 hd.2.2.2.2.1, hr.2.2]
          exact List.contains_iff_mem.mp hc.1
    · cases h
  | 29, h, hs =>
    simp only [pm_step] at hs
    obtain ⟨x1, K1, rfl, h_41⟩ := ks_p1_s h
    obtain ⟨x2, K2, rfl, h_42⟩ := ks_p1_s h_41
    cases h_42
    obtain ⟨y, x, Kc', rfl, hs_43⟩ := k_ii_s hs
    obtain ⟨_, rfl⟩ := k_if_s hs_43
    exact psh n1 hK.2.2
  | 30, h, hs =>
    simp only [pm_step] at hs
    obtain ⟨x1, K1, rfl, h_44⟩ := ks_p1_s h
    cases h_44
    obtain ⟨x, Kc', rfl, hs_45⟩ := k_i_s hs
    obtain ⟨_, rfl⟩ := k_if_s hs_45
    exact psh n1 hK.2
  | n + 31, h, hs => cases h
/-- a method's states, place by place -/
abbrev ks_C : Type := List (Nat × ks_S)
def ks_at (C : ks_C) (pc : Nat) : Option ks_S := match C with
  | [] => none
  | c :: t => cond (Nat.beq c.1 pc) (some c.2) (ks_at t pc)
def ks_leS (a b : ks_S) : Bool := ks_le a.1 b.1 && ks_le a.2 b.2
def ks_meth (w : an_W) (CT : Nat → List ks_Q) (Q : ks_Q) (lay : List Nat) (full : pm_P) (C : ks_C) : Bool := pm_srt full && ((match ks_at C 0 with
  | some s => ks_le lay s.1 && Nat.beq s.2.length 0
  | none => false) && full.all (fun q => match ks_at C q.1 with
  | none => true
  | some s => match ks_op w CT Q q.2 s with
    | none => false
    | some succ => succ.all (fun x => match ks_at C x.1 with
      | none => false
      | some s' => ks_leS x.2 s')))
theorem ks_run {w : an_W} {PT : pm_T} {CT : Nat → List ks_Q} {Q : ks_Q} {full : pm_P} {C : ks_C} (hs : pm_srt full = true) (hall : full.all (fun q => match ks_at C q.1 with
  | none => true
  | some s => match ks_op w CT Q q.2 s with
    | none => false
    | some succ => succ.all (fun x => match ks_at C x.1 with
      | none => false
      | some s' => ks_leS x.2 s')) = true) {A0 : pm_A} : ∀ (n : Nat), (∀ m, m < n → ksRec w CT (pm_call PT (an_sh w) m)) → ∀ (pc : Nat) (s : ks_S) (c : pm_S) (r : pm_R), ks_at C pc = some s → ksG w Q.2.2 A0 s c → pm_run PT (an_sh w) n full (pm_seek pc full) c = some r → ksPost w Q A0 r
  | 0, _, _, _, _, _, _, _, h => by cases h
  | n + 1, hR, pc, s, c, r, hC, hg, h => by
    cases hq : pm_seek pc full with
    | nil => rw [hq] at h; cases h
    | cons q rest =>
      rw [hq, pm_run_s] at h
      have e1 := pm_seek_hd hq
      have hin : q ∈ full := by
        obtain ⟨pre, hp⟩ := pm_seek_suf (pc := pc) (full := full)
        rw [hq] at hp
        rw [hp]
        exact List.mem_append_right _ List.mem_cons_self
      have hc := List.all_eq_true.mp hall q hin
      rw [e1, hC] at hc
      simp only at hc
      split at hc
      · cases hc
      · next succ hop =>
        split at h
        · cases h
        · next r0 hst =>
          cases h
          exact ks_op_ok (hR n (Nat.lt_succ_self _)) hop hg hst
        · next pc' s' hst =>
          obtain ⟨S, hS, hG⟩ := ks_op_ok (hR n (Nat.lt_succ_self _)) hop hg hst
          have hc := List.all_eq_true.mp hc _ hS
          simp only at hc
          split at hc
          · cases hc
          · next S' hS' =>
            rw [pm_next_seek hs hq] at h
            unfold ks_leS at hc
            rw [Bool.and_eq_true] at hc
            exact ks_run hs hall n (fun m hm => hR m (by omega)) pc' S' s' r hS' ⟨kvl_le hc.1 hG.1, kvl_le hc.2 hG.2.1, hG.2.2⟩ h
theorem kvl_lay {w : an_W} : ∀ (a : List Nat) (x : List pm_V), a.all (fun c => !Nat.beq c 0) = true → kvl w a x → kvl w (ks_lay a) (pm_lay x)
  | [], [], _, _ => trivial
  | c :: as, (t, v) :: xs, hz, h => by
    rw [List.all_cons, Bool.and_eq_true] at hz
    have ih := kvl_lay as xs hz.2 h.2
    match c, hz.1, h.1 with
    | 1, _, hv =>
      have e2 : pm_lay ((t, v) :: xs) = (t, v) :: pm_lay xs := by simp only [pm_lay]; rw [if_neg hv]
      rw [e2]; exact ⟨hv, ih⟩
    | 2, _, hv =>
      have ht : t = 1 := hv
      subst ht
      exact ⟨rfl, (by show ¬ (9 : Nat) = 1; decide), ih⟩
    | k + 3, _, hv =>
      have ht : t = 2 := hv.1
      subst ht
      exact ⟨hv, ih⟩
  | [], _ :: _, _, h => h.elim
  | _ :: _, [], _, h => h.elim
def ks_cat (c : Nat) : Nat := cond (Nat.beq c 2) 2 1
theorem ks_cats {w : an_W} : ∀ (a : List Nat) (x : List pm_V), a.all (fun c => !Nat.beq c 0) = true → kvl w a x → (x.map pm_cat).sum = (a.map ks_cat).sum
  | [], [], _, _ => rfl
  | c :: as, (t, v) :: xs, hz, h => by
    rw [List.all_cons, Bool.and_eq_true] at hz
    have ih := ks_cats as xs hz.2 h.2
    rw [List.map_cons, List.sum_cons, List.map_cons, List.sum_cons, ih]
    congr 1
    match c, hz.1, h.1 with
    | 1, _, hv => show (if t = 1 then 2 else 1) = 1; rw [if_neg hv]
    | 2, _, hv =>
      show (if t = 1 then 2 else 1) = 2
      have hv : t = 1 := hv
      rw [if_pos hv]
    | k + 3, _, hv =>
      show (if t = 1 then 2 else 1) = 1
      have ht : t = 2 := hv.1
      rw [ht]; rfl
  | [], _ :: _, _, h => h.elim
  | _ :: _, [], _, h => h.elim
def ks_args (nL : Nat) (a : List Nat) : List Nat := ks_lay a ++ List.replicate (nL - (a.map ks_cat).sum) 1
/-- a table of what methods write, each row checked -/
def ks_row (w : an_W) (PT : pm_T) (CT : Nat → List ks_Q) (mid : Nat) (x : ks_Q × ks_C) : Bool := x.1.1.all (fun c => !Nat.beq c 0) && ks_meth w CT x.1 (ks_args (PT mid).1 x.1.1) (PT mid).2 x.2
theorem ks_sound {w : an_W} {PT : pm_T} {CT : Nat → List ks_Q} (hT : ∀ mid Q, Q ∈ CT mid → ∃ C, ks_row w PT CT mid (Q, C) = true) : ∀ n, ksRec w CT (pm_call PT (an_sh w) n) := by
  have key : ∀ n, ∀ m, m < n → ksRec w CT (pm_call PT (an_sh w) m) := by
    intro n
    induction n with
    | zero => intro m hm; omega
    | succ n ih =>
      intro m hm
      intro mid Q hQ a A r ha hA h
      obtain ⟨C, hC⟩ := hT mid Q hQ
      simp only [ks_row, Bool.and_eq_true] at hC
      obtain ⟨hz, hC⟩ := hC
      unfold ks_meth at hC
      rw [Bool.and_eq_true, Bool.and_eq_true] at hC
      obtain ⟨h1, h2, h3⟩ := hC
      split at h2
      · next s hs =>
        rw [Bool.and_eq_true] at h2
        unfold pm_call at h
        split at h
        · refine ks_run h1 h3 m (fun m' hm' => ih m' (by omega)) 0 s _ r hs ⟨kvl_le h2.1 ?_, ?_, hA, fun _ _ _ _ _ => rfl⟩ h
          · unfold ks_args pm_args
            rw [← ks_cats Q.1 a hz ha]
            exact kvl_app (kvl_lay Q.1 a hz ha) (kvl_rep _)
          · have := Nat.eq_of_beq_eq_true h2.2
            rw [List.length_eq_zero_iff.mp this]
            trivial
        · cases h
      · cases h2
  exact fun n => key (n + 1) n (Nat.lt_succ_self _)
