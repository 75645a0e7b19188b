/-! way of the reference, exactly -/
def wbM (A : pm_A) : Prop := cntF (fcs A 0) 100 = A 31 0 - 3 ∧ cntF (fcs A 1) 100 = A 31 1 - 3 ∧ A 31 0 = A 31 1
def mlP (n : Int) (bm bf : Int → Int) (m v0 vs : Int) (r : pm_R) : Prop := ∃ l : List Int, wyM n bm bf m v0 l vs ∧ r.1 = some (0, (l.length : Int)) ∧ r.2 0 55 = (l.length : Int) ∧ ∀ (j_z : Nat) (b_z : Int), l[j_z]? = some b_z → r.2 37 (j_z : Int) = nam (bf b_z)
def wvQ (A : pm_A) (r : pm_R) : Prop := (¬ wbM A ∧ r = (some (0, -1), A)) ∨ (wbM A ∧ ∃ (bm_z bf : Int → Int) (m_z : Int), bmS (A 31 0) bm_z bf m_z ∧ bmO (A 31 0) bm_z ∧ mlP (A 31 0) bm_z bf m_z (bitsV bm_z (fcs A 1) 100) (bitsV bm_z (fcs A 0) 100) r)
def wvP (A : pm_A) (r : pm_R) : Prop := ri_post r ∧ (∀ s_z : Int, r.2 31 s_z = A 31 s_z) ∧ (∀ j_z : Int, 0 ≤ j_z → j_z < 200 → r.2 32 j_z = A 32 j_z) ∧ wvQ A r
theorem wvP.wz {A : pm_A} {r : pm_R} (h : wvP A r) : wzP A r := ⟨h.1, h.2.1, h.2.2.1⟩
theorem mnamed_eq {A : pm_A} {f : Int} (f0 : 0 ≤ f) (f1 : f ≤ 99) : Cl pmt (an_sh wM) 167 [(0, f)] A (fun r_z => r_z.2 = A ∧ r_z.1 = some (0, nam f)) := by
  refine Cl.of (Nat.le_of_ble_eq_true rfl) ?_
  refine wq_ok (full := o_X10_named) srt_Mnamed (fr := []) (cuts := []) (J := fun _ _ => False) ?_ 14 0 _ ?_
  · intro pc st_z h_z; exact h_z.elim
  · refine ⟨⟨by omega, by omega, by omega, by omega⟩, ?_⟩
    refine ⟨(show r32 (100 * (f / 10) : Int) from ⟨by omega, by omega⟩), ?_⟩
    refine ⟨⟨by omega, by omega, by omega, by omega⟩, ?_⟩
    refine ⟨(show r32 ((100 * (f / 10)) + (f % 10) : Int) from ⟨by omega, by omega⟩), ?_⟩
    exact ⟨rfl, rfl, rfl⟩
/-- the bits as far as they are given out, in the order of the fences -/
def c1I (n : Int) (bm bf : Int → Int) (f m : Int) : Prop := b1I n bm bf f m ∧ ∀ g_z g' : Int, 0 ≤ g_z → g_z < g' → g' < f → vdF n g_z → vdF n g' → bm g_z < bm g'
theorem c1I.m34 {n f m : Int} {bm bf : Int → Int} (h : c1I n bm bf f m) (n0 : 4 ≤ n) (n1 : n ≤ 10) (f0 : 0 ≤ f) (f1 : f < 100) (hv : vdF n f) : 0 ≤ m ∧ m ≤ 34 := b1I.m34 h.1 n0 n1 f0 f1 hv
theorem c1I.skip {n f m : Int} {bm bf : Int → Int} (h : c1I n bm bf f m) (f0 : 0 ≤ f) (hv : ¬ vdF n f) (hf : bm f = -1) : c1I n bm bf (f + 1) m := ⟨b1I.skip h.1 f0 hv hf, fun g_z g' g0 g1 g2 v1_z v2_z => by
  by_cases e_z : g' = f
  · rw [e_z] at v2_z
    exact absurd v2_z hv
  · exact h.2 g_z g' g0 g1 (by omega) v1_z v2_z⟩
theorem c1I.take {n f m : Int} {bm bf bm' bf' : Int → Int} (h : c1I n bm bf f m) (f0 : 0 ≤ f) (hv : vdF n f) (e1 : bm' f = m) (e2 : ∀ g_z, g_z ≠ f → bm' g_z = bm g_z) (e3 : bf' m = f) (e4 : ∀ b_z, b_z ≠ m → bf' b_z = bf b_z) : c1I n bm' bf' (f + 1) (m + 1) := ⟨b1I.take h.1 f0 hv e1 e2 e3 e4, fun g_z g' g0 g1 g2 v1_z v2_z => by
  rw [e2 g_z (by omega)]
  by_cases e_z : g' = f
  · rw [e_z, e1]
    rcases h.1.2.1 g_z g0 (by omega) with k_z | k_z
    · exact k_z.2.2.1
    · exact absurd v1_z k_z.1
  · rw [e2 g' e_z]
    exact h.2 g_z g' g0 g1 (by omega) v1_z v2_z⟩
/-- the first fence that leads down, as far as it is looked for -/
def dnJ (n : Int) (bm bf : Int → Int) (m : Int) (V fa : Int → Int) (cm here th b w : Int) : Prop := (th = -1 ∧ ∀ b' w' e_z : Int, b < b' → b' < m → mfl n bm bf (V here) b' w' → 0 ≤ e_z → e_z < cm → V e_z = w' → ¬ fa e_z = fa here - 1) ∨ (∃ bs_z : Int, ((b < bs_z ∧ bs_z < m) ∧ mfl n bm bf (V here) bs_z (V th) ∧ w = nam (bf bs_z)) ∧ (0 ≤ th ∧ th < cm ∧ fa th = fa here - 1) ∧ ∀ b' w' e_z : Int, b < b' → b' < bs_z → mfl n bm bf (V here) b' w' → 0 ≤ e_z → e_z < cm → V e_z = w' → ¬ fa e_z = fa here - 1)
theorem dnJ.i {n m cm here th b w : Int} {bm bf V fa : Int → Int} (h : dnJ n bm bf m V fa cm here th b w) : dnI n bm bf m V fa cm here th b := by
  rcases h with h_z | ⟨_, _, h_z, _⟩
  · exact Or.inl h_z
  · exact Or.inr h_z
theorem dnJ.skip {n m cm here th b w : Int} {bm bf V fa : Int → Int} (h : dnJ n bm bf m V fa cm here th b w) (hno : ∀ w' e_z : Int, mfl n bm bf (V here) b w' → 0 ≤ e_z → e_z < cm → V e_z = w' → ¬ fa e_z = fa here - 1) : dnJ n bm bf m V fa cm here th (b - 1) w := by
  rcases h with ⟨h1, h2⟩ | ⟨bs_z, ⟨⟨k0_z, k1_z⟩, h3⟩, h4, h5⟩
  · refine Or.inl ⟨h1, fun b' w' e_z y0 y1 y2 y3 y4 y5 => ?_⟩
    by_cases eb : b' = b
    · rw [eb] at y2
      exact hno w' e_z y2 y3 y4 y5
    · exact h2 b' w' e_z (by omega) y1 y2 y3 y4 y5
  · refine Or.inr ⟨bs_z, ⟨⟨by omega, k1_z⟩, h3⟩, h4, fun b' w' e_z y0 y1 y2 y3 y4 y5 => ?_⟩
    by_cases eb : b' = b
    · rw [eb] at y2
      exact hno w' e_z y2 y3 y4 y5
    · exact h5 b' w' e_z (by omega) y1 y2 y3 y4 y5
theorem dnJ.end {n m cm here th b w : Int} {bm bf V fa : Int → Int} (hb : bmS n bm bf m) (hl : lsI n bm bf m V fa cm) (h : dnJ n bm bf m V fa cm here th b w) (hb0 : b = -1) (p0 : 0 ≤ here) (p1 : here < cm) (hf : 0 < fa here) : ∃ bs_z : Int, ((0 ≤ bs_z ∧ bs_z < m) ∧ mfl n bm bf (V here) bs_z (V th) ∧ w = nam (bf bs_z)) ∧ (0 ≤ th ∧ th < cm ∧ fa th = fa here - 1) ∧ ∀ b' w' e_z : Int, 0 ≤ b' → b' < bs_z → mfl n bm bf (V here) b' w' → 0 ≤ e_z → e_z < cm → V e_z = w' → ¬ fa e_z = fa here - 1 := by
  have h0 := dnI.end hb hl h.i (by omega) p0 p1 hf
  rcases h with ⟨h1, _⟩ | ⟨bs_z, ⟨⟨k0_z, k1_z⟩, h3⟩, h4, h5⟩
  · omega
  · exact ⟨bs_z, ⟨⟨by omega, k1_z⟩, h3⟩, h4, fun b' w' e_z y0 y1 y2 y3 y4 y5 => h5 b' w' e_z (by omega) y1 y2 y3 y4 y5⟩
theorem wv_94 {A B : pm_A} {n m f : Int} (hB : wyF A B) (h : c1I n (B 33) (B 34) f m) (n0 : 4 ≤ n) (n1 : n ≤ 10) (f0 : 0 ≤ f) (f1 : f < 100) (hv : vdF n f) (H : ∀ (C_z : pm_A) (m' : Int), wyF A C_z → c1I n (C_z 33) (C_z 34) (f + 1) m' → Tm pmt (an_sh wM) o_X10_way 44 ([(2, 0), (0, n), (0, m'), (0, f + 1), (9, 0), (9, 0), (9, 0), (9, 0), (9, 0), (9, 0)], [], C_z)  (wvP A)) : Tm pmt (an_sh wM) o_X10_way 94 ([(2, 0), (0, n), (0, m), (0, f), (9, 0), (9, 0), (9, 0), (9, 0), (9, 0), (9, 0)], [], B)  (wvP A) := by
  have hm_z := h.m34 n0 n1 f0 f1 hv
  have c50 := pM_50 hB.1
  have h101 : ∀ C_z, C_z = pm_upd B 33 f m → Tm pmt (an_sh wM) o_X10_way 101 ([(2, 0), (0, n), (0, m), (0, f), (9, 0), (9, 0), (9, 0), (9, 0), (9, 0), (9, 0)], [], C_z)  (wvP A) := fun C_z hC => by
    have hg : gH wM C_z := by rw [hC]; exact uM_33 hB.1 kn33 (by omega) (by omega)
    have c51_z := pM_51 hg
    refine wq_ok srt_Mway (fr := []) (cuts := [44]) (J := fun pc st_z => (pc = 44 ∧ st_z = ([(2, 0), (0, n), (0, m + 1), (0, f + 1), (9, 0), (9, 0), (9, 0), (9, 0), (9, 0), (9, 0)], [], pm_upd C_z (C_z 0 51) m f))) ?_ 13 101 _ ?_
    · rintro pc st_z (⟨rfl, rfl⟩)
      rw [c51_z]
      refine H _ _ ⟨uM_34 hg kn34 (by omega) (by omega), fun r_z j_z h1 h2 => by rw [upd_o (by omega), hC, upd_o (by omega)]; exact hB.2 r_z j_z h1 h2⟩ ?_
      refine h.take f0 hv ?_ (fun g_z hg => ?_) ?_ (fun b_z hb_z => ?_)
      · rw [upd_o (by omega), hC, upd_at]
      · rw [upd_o (by omega), hC, upd_o (by omega)]
      · rw [upd_at]
      · rw [upd_o (by omega), hC, upd_o (by omega)]
    · refine ⟨oM_0 (by omega) km0 51 rfl, ?_⟩
      refine ⟨tM_34 (r := C_z 0 51) (by rw [c51_z]; omega) (by rw [c51_z]; exact kn34) (by omega) (by omega) rfl, ?_⟩
      refine ⟨⟨by omega, by omega⟩, ?_⟩
      refine ⟨⟨by omega, by omega⟩, ?_⟩
      exact ⟨rfl, rfl⟩
  refine wq_ok srt_Mway (fr := []) (cuts := [101]) (J := fun pc st_z => (pc = 101 ∧ st_z = ([(2, 0), (0, n), (0, m), (0, f), (9, 0), (9, 0), (9, 0), (9, 0), (9, 0), (9, 0)], [], pm_upd B (B 0 50) f m))) ?_ 10 94 _ ?_
  · rintro pc st_z (⟨rfl, rfl⟩)
    rw [c50]
    exact h101 _ rfl
  · refine ⟨oM_0 (by omega) km0 50 rfl, ?_⟩
    refine ⟨tM_33 (r := B 0 50) (by rw [c50]; omega) (by rw [c50]; exact kn33) (by omega) (by omega) rfl, ?_⟩
    exact ⟨rfl, rfl⟩
theorem wv_57 {A B : pm_A} {n m f : Int} (hB : wyF A B) (h : c1I n (B 33) (B 34) f m) (hf : B 33 f = -1) (n0 : 4 ≤ n) (n1 : n ≤ 10) (f0 : 0 ≤ f) (f1 : f < 100) (H : ∀ (C_z : pm_A) (m' : Int), wyF A C_z → c1I n (C_z 33) (C_z 34) (f + 1) m' → Tm pmt (an_sh wM) o_X10_way 44 ([(2, 0), (0, n), (0, m'), (0, f + 1), (9, 0), (9, 0), (9, 0), (9, 0), (9, 0), (9, 0)], [], C_z)  (wvP A)) : Tm pmt (an_sh wM) o_X10_way 57 ([(2, 0), (0, n), (0, m), (0, f), (9, 0), (9, 0), (9, 0), (9, 0), (9, 0), (9, 0)], [], B)  (wvP A) := by
  have sk : ¬ vdF n f → Tm pmt (an_sh wM) o_X10_way 44 ([(2, 0), (0, n), (0, m), (0, f + 1), (9, 0), (9, 0), (9, 0), (9, 0), (9, 0), (9, 0)], [], B)  (wvP A) := fun hv => H B m hB (h.skip f0 hv hf)
  refine wq_ok srt_Mway (fr := []) (cuts := [44, 88]) (J := fun pc st_z => (pc = 44 ∧ ((f % 10) ≤ (f / 10)) ∧ st_z = ([(2, 0), (0, n), (0, m), (0, f + 1), (9, 0), (9, 0), (9, 0), (9, 0), (9, 0), (9, 0)], [], B)) ∨ (pc = 44 ∧ ((f / 10) < (f % 10)) ∧ (n ≤ (f % 10)) ∧ st_z = ([(2, 0), (0, n), (0, m), (0, f + 1), (9, 0), (9, 0), (9, 0), (9, 0), (9, 0), (9, 0)], [], B)) ∨ (pc = 88 ∧ ((f / 10) < (f % 10)) ∧ ((f % 10) < n) ∧ ∃ z_z : Int, ((z_z = 1 ∧ neigh n (f / 10) (f % 10)) ∨ (z_z = 0 ∧ ¬ neigh n (f / 10) (f % 10))) ∧ st_z = ([(2, 0), (0, n), (0, m), (0, f), (9, 0), (9, 0), (9, 0), (9, 0), (9, 0), (9, 0)], [(0, z_z)], B))) ?_ 24 57 _ ?_
  · rintro pc st_z (⟨rfl, h0, rfl⟩ | ⟨rfl, h0, h1, rfl⟩ | ⟨rfl, h0, h1, z_z, hz, rfl⟩)
    · exact sk (fun hv => by have a_z := hv.1; have b_z := hv.2.1; omega)
    · exact sk (fun hv => by have a_z := hv.1; have b_z := hv.2.1; omega)
    · have g0 : f / 10 < f % 10 := by assumption
      have g1 : f % 10 < n := by assumption
      refine wq_ok srt_Mway (fr := []) (cuts := [44, 94]) (J := fun pc st_z => (pc = 94 ∧ (z_z = 0) ∧ st_z = ([(2, 0), (0, n), (0, m), (0, f), (9, 0), (9, 0), (9, 0), (9, 0), (9, 0), (9, 0)], [], B)) ∨ (pc = 44 ∧ (¬ z_z = 0) ∧ st_z = ([(2, 0), (0, n), (0, m), (0, f + 1), (9, 0), (9, 0), (9, 0), (9, 0), (9, 0), (9, 0)], [], B))) ?_ 9 88 _ ?_
      · rintro pc st_z (⟨rfl, h0, rfl⟩ | ⟨rfl, h0, rfl⟩)
        · refine wv_94 hB h n0 n1 f0 f1 ⟨g0, g1, ?_⟩ H
          rcases hz with ⟨e_z, _⟩ | ⟨_, e_z⟩
          · omega
          · exact e_z
        · refine sk (fun hv => hv.2.2 ?_)
          rcases hz with ⟨_, e_z⟩ | ⟨e_z, _⟩
          · exact e_z
          · omega
      · refine ⟨fun h0 => ?_, fun h0 => ?_⟩
        · exact Or.inl (⟨rfl, h0, rfl⟩)
        · refine ⟨⟨by omega, by omega⟩, ?_⟩
          exact Or.inr (⟨rfl, h0, rfl⟩)
  · refine ⟨⟨by omega, by omega, by omega, by omega⟩, ?_⟩
    refine ⟨⟨by omega, by omega, by omega, by omega⟩, ?_⟩
    refine ⟨fun h0 => ?_, fun h0 => ?_⟩
    · refine ⟨⟨by omega, by omega⟩, ?_⟩
      exact Or.inl (⟨rfl, h0, rfl⟩)
    · refine ⟨⟨by omega, by omega, by omega, by omega⟩, ?_⟩
      refine ⟨fun h1 => ?_, fun h1 => ?_⟩
      · refine ⟨⟨by omega, by omega⟩, ?_⟩
        exact Or.inr (Or.inl (⟨rfl, h0, h1, rfl⟩))
      · refine ⟨⟨by omega, by omega, by omega, by omega⟩, ?_⟩
        refine ⟨⟨by omega, by omega, by omega, by omega⟩, ?_⟩
        refine ⟨rfl, ?_⟩
        refine (MareNeighbours_ex (n := n) (x := f / 10) (y := f % 10) n0 n1 (by omega) (by omega) (by omega) (by omega)).imp ?_
        rintro ⟨r1_z, C_z⟩ ⟨q1_z, z_z, q2_z, hz⟩
        simp only at q1_z q2_z
        subst q1_z
        subst q2_z
        exact Or.inr (Or.inr (⟨rfl, h0, h1, z_z, hz, rfl⟩))
theorem wv_44 {A : pm_A} {n : Int} (n0 : 4 ≤ n) (n1 : n ≤ 10) (H : ∀ (C_z : pm_A) (m_z : Int), wyF A C_z → bmS n (C_z 33) (C_z 34) m_z → bmO n (C_z 33) → 0 ≤ m_z → Tm pmt (an_sh wM) o_X10_way 117 ([(2, 0), (0, n), (0, m_z), (0, 100), (9, 0), (9, 0), (9, 0), (9, 0), (9, 0), (9, 0)], [], C_z)  (wvP A)) : ∀ (k_z : Nat) (f_z m_z : Int) (B_z : pm_A), (100 - f_z).toNat < k_z → 0 ≤ f_z → f_z ≤ 100 → wyF A B_z → c1I n (B_z 33) (B_z 34) f_z m_z → Tm pmt (an_sh wM) o_X10_way 44 ([(2, 0), (0, n), (0, m_z), (0, f_z), (9, 0), (9, 0), (9, 0), (9, 0), (9, 0), (9, 0)], [], B_z)  (wvP A) := by
  intro k_z
  induction k_z with
  | zero => intro f_z m_z B_z h_z; omega
  | succ k_z ih_z =>
    intro f_z m_z B_z hk f0_z f1_z hB_z h_z
    have c50 := pM_50 hB_z.1
    have hm_z := cntF_b (vdc n) f_z.toNat
    have hm1 := h_z.1.1
    refine wq_ok srt_Mway (fr := []) (cuts := [57, 117]) (J := fun pc st_z => (pc = 117 ∧ (100 ≤ f_z) ∧ st_z = ([(2, 0), (0, n), (0, m_z), (0, f_z), (9, 0), (9, 0), (9, 0), (9, 0), (9, 0), (9, 0)], [], B_z)) ∨ (pc = 57 ∧ (f_z < 100) ∧ st_z = ([(2, 0), (0, n), (0, m_z), (0, f_z), (9, 0), (9, 0), (9, 0), (9, 0), (9, 0), (9, 0)], [], pm_upd B_z (B_z 0 50) f_z ((-1))))) ?_ 13 44 _ ?_
    · rintro pc st_z (⟨rfl, h0, rfl⟩ | ⟨rfl, h0, rfl⟩)
      · have e_z : f_z = 100 := by omega
        subst e_z
        exact H B_z m_z hB_z (b1I.bmS h_z.1 n0 n1) (fun f_z g_z f0_z f1_z g1_z v1_z v2_z => h_z.2 f_z g_z f0_z f1_z g1_z v1_z v2_z) (by omega)
      · rw [c50]
        refine wv_57 (B := pm_upd B_z 33 f_z (-1)) ⟨uM_33 hB_z.1 kn33 (by omega) (by omega), fun r_z j_z h1 h2 => by rw [upd_o (by omega)]; exact hB_z.2 r_z j_z h1 h2⟩ ?_ (by rw [upd_at]) n0 n1 f0_z (by omega) (fun C_z m' hC h_z => ih_z (f_z + 1) m' C_z (by omega) (by omega) (by omega) hC h_z)
        refine ⟨⟨h_z.1.1, fun g_z g0 g1 => ?_, fun b_z b0 b1 => ?_⟩, fun g_z g' g0 g1 g2 v1_z v2_z => by rw [upd_o (by omega), upd_o (by omega)]; exact h_z.2 g_z g' g0 g1 g2 v1_z v2_z⟩
        · have e_z : pm_upd B_z 33 f_z (-1) 33 g_z = B_z 33 g_z := upd_o (by omega)
          rw [e_z]
          exact (h_z.1.2.1 g_z g0 g1).imp (fun ⟨a1_z, a2, a3, a4⟩ => ⟨a1_z, a2, a3, by rw [upd_o (by omega)]; exact a4⟩) id
        · have a_z := h_z.1.2.2 b_z b0 b1
          have e_z : pm_upd B_z 33 f_z (-1) 34 b_z = B_z 34 b_z := upd_o (by omega)
          rw [e_z]
          exact ⟨a_z.1, a_z.2.1, by rw [upd_o (by omega)]; exact a_z.2.2⟩
    · refine ⟨fun h0 => ?_, fun h0 => ?_⟩
      · exact Or.inl (⟨rfl, h0, rfl⟩)
      · refine ⟨oM_0 (by omega) km0 50 rfl, ?_⟩
        refine ⟨tM_33 (r := B_z 0 50) (by rw [c50]; omega) (by rw [c50]; exact kn33) (by omega) (by omega) rfl, ?_⟩
        exact Or.inr (⟨rfl, h0, rfl⟩)
theorem wv_119 {A : pm_A} {n m : Int} {bm bf : Int → Int} (H : ∀ (C_z : pm_A) (i_z : Int), wyF A C_z → C_z 33 = bm → C_z 34 = bf → (∀ i_z : Int, 0 ≤ i_z → i_z < 200 → C_z 38 i_z = A 32 i_z) → Tm pmt (an_sh wM) o_X10_way 144 ([(2, 0), (0, n), (0, m), (0, i_z), (9, 0), (9, 0), (9, 0), (9, 0), (9, 0), (9, 0)], [], C_z)  (wvP A)) : ∀ (k_z : Nat) (i_z : Int) (B_z : pm_A), (200 - i_z).toNat < k_z → 0 ≤ i_z → i_z ≤ 200 → wyF A B_z → B_z 33 = bm → B_z 34 = bf → (∀ j_z : Int, 0 ≤ j_z → j_z < i_z → B_z 38 j_z = A 32 j_z) → Tm pmt (an_sh wM) o_X10_way 119 ([(2, 0), (0, n), (0, m), (0, i_z), (9, 0), (9, 0), (9, 0), (9, 0), (9, 0), (9, 0)], [], B_z)  (wvP A) := by
  intro k_z
  induction k_z with
  | zero => intro i_z B_z h_z; omega
  | succ k_z ih_z =>
    intro i_z B_z hk i0_z i1_z hB_z e33_z e34 hs
    have c49 := pM_49 hB_z.1
    have c57 := pM_57 hB_z.1
    have b32_z : i_z < 200 → 0 ≤ B_z 32 i_z ∧ B_z 32 i_z ≤ 1 := fun h_z => eM_32 hB_z.1 (r := 32) (by omega) kn32 i0_z h_z
    refine wq_ok srt_Mway (fr := []) (cuts := [119, 144]) (J := fun pc st_z => (pc = 144 ∧ (200 ≤ i_z) ∧ st_z = ([(2, 0), (0, n), (0, m), (0, i_z), (9, 0), (9, 0), (9, 0), (9, 0), (9, 0), (9, 0)], [], B_z)) ∨ (pc = 119 ∧ (i_z < 200) ∧ st_z = ([(2, 0), (0, n), (0, m), (0, i_z + 1), (9, 0), (9, 0), (9, 0), (9, 0), (9, 0), (9, 0)], [], pm_upd B_z (B_z 0 57) i_z (B_z (B_z 0 49) i_z)))) ?_ 18 119 _ ?_
    · rintro pc st_z (⟨rfl, h0, rfl⟩ | ⟨rfl, h0, rfl⟩)
      · exact H B_z i_z hB_z e33_z e34 (fun j_z j0 j1 => hs j_z j0 (by omega))
      · rw [c57, c49]
        have b_z := b32_z (by omega)
        refine ih_z (i_z + 1) _ (by omega) (by omega) (by omega) ⟨uM_38 hB_z.1 kn38 b_z.1 b_z.2, fun r_z j_z h1 h2 => by rw [upd_o (by omega)]; exact hB_z.2 r_z j_z h1 h2⟩ (by rw [← e33_z]; funext j_z; exact upd_o (by omega)) (by rw [← e34]; funext j_z; exact upd_o (by omega)) (fun j_z j0 j1 => ?_)
        by_cases e_z : j_z = i_z
        · rw [e_z, upd_at]; exact hB_z.2 32 i_z (by omega) (by omega)
        · rw [upd_o (by omega)]; exact hs j_z j0 (by omega)
    · refine ⟨fun h0 => ?_, fun h0 => ?_⟩
      · exact Or.inl (⟨rfl, h0, rfl⟩)
      · refine ⟨oM_0 (by omega) km0 57 rfl, ?_⟩
        refine ⟨oM_0 (by omega) km0 49 rfl, ?_⟩
        refine ⟨aM_32 (r := B_z 0 49) (by rw [c49]; omega) (by rw [c49]; exact kn32) (by omega) (by omega), ?_⟩
        have e1 : B_z (B_z 0 49) i_z = B_z 32 i_z := by rw [c49]
        refine ⟨tM_38 (r := B_z 0 57) (by rw [c57]; omega) (by rw [c57]; exact kn38) (by omega) (by omega) (okZ (by rw [c49]; exact (b32_z (by omega)).1) (by rw [c49]; exact (b32_z (by omega)).2)), ?_⟩
        refine ⟨⟨by omega, by omega⟩, ?_⟩
        exact Or.inr (⟨rfl, h0, rfl⟩)
theorem wv_260 {A B : pm_A} {n m bg c b cm wm : Int} {bm bf V fa : Int → Int} (hw : wyS A B n bm bf V fa cm wm) (hb : bmS n bm bf m) (h : bfsI n bm bf m V fa cm c b) (c0 : 0 ≤ c) (c1 : c < cm) (b0 : 0 ≤ b) (b1 : b < m) {g v : Int} (hv : mfl n bm bf (V c) b v) (iv : i64 v) (hno : ∀ d_z : Int, 0 ≤ d_z → d_z < cm → ¬ V d_z = v) (H : ∀ (C_z : pm_A) (V' fa' : Int → Int) (cm' : Int) (w7_z w8 w9 : pm_V), wyS A C_z n bm bf V' fa' cm' wm → bfsI n bm bf m V' fa' cm' c (b + 1) → c < cm' → Tm pmt (an_sh wM) o_X10_way 188 ([(2, 0), (0, n), (0, m), (1, bg), (9, 0), (0, c), (0, b + 1), w7_z, w8, w9], [], C_z)  (wvP A)) : Tm pmt (an_sh wM) o_X10_way 260 ([(2, 0), (0, n), (0, m), (1, bg), (9, 0), (0, c), (0, b), (0, g), (1, v), (9, 0)], [], B)  (wvP A) := by
  have room_z := bfs_room hb h b0 b1 hv hno
  have hm35 := hb.1
  have hl := h.1.1
  have hfc := h.1.2.2.2.2.2.2 c c0 c1
  have hvb := i64_b iv
  obtain ⟨h1, h2, h3, h4, h5, h6, h7, h8, h9, h10⟩ := hw
  have c52_z := pM_52 h1
  have h271 : ∀ B1, B1 = pm_upd B 35 cm v → Tm pmt (an_sh wM) o_X10_way 271 ([(2, 0), (0, n), (0, m), (1, bg), (9, 0), (0, c), (0, b), (0, g), (1, v), (9, 0)], [], B1)  (wvP A) := fun B1 hB1 => by
    have g1 : gH wM B1 := by rw [hB1]; exact uM_35 h1 kn35 hvb.1 hvb.2
    have c53 := pM_53 g1
    have k54 : B1 0 54 = cm := by rw [hB1, upd_o (by omega)]; exact h7
    have k36 : B1 36 c = fa c := by rw [hB1, upd_o (by omega), h6]
    have h289 : ∀ B2, B2 = pm_upd B1 36 cm (fa c + 1) → Tm pmt (an_sh wM) o_X10_way 289 ([(2, 0), (0, n), (0, m), (1, bg), (9, 0), (0, c), (0, b), (0, g), (1, v), (9, 0)], [], B2)  (wvP A) := fun B2 hB2 => by
      have g2 : gH wM B2 := by rw [hB2]; exact uM_36 g1 kn36 (by omega) (by omega)
      have j54 : B2 0 54 = cm := by rw [hB2, upd_o (by omega)]; exact k54
      refine wq_ok srt_Mway (fr := []) (cuts := [188]) (J := fun pc st_z => (pc = 188 ∧ st_z = ([(2, 0), (0, n), (0, m), (1, bg), (9, 0), (0, c), (0, b + 1), (0, g), (1, v), (9, 0)], [], pm_upd B2 0 54 ((B2 0 54) + 1)))) ?_ 13 289 _ ?_
      · rintro pc st_z (⟨rfl, rfl⟩)
        rw [j54]
        have ho : ∀ r_z j_z : Int, ¬ (r_z = 0 ∧ j_z = 54) → ¬ (r_z = 36 ∧ j_z = cm) → ¬ (r_z = 35 ∧ j_z = cm) → pm_upd B2 0 54 (cm + 1) r_z j_z = B r_z j_z := fun r_z j_z a1_z a2 a3 => by rw [upd_o (by omega), hB2, upd_o (by omega), hB1, upd_o (by omega)]
        refine H _ (pm_upd B2 0 54 (cm + 1) 35) (pm_upd B2 0 54 (cm + 1) 36) (cm + 1) _ _ _ ⟨uM_0_54 g2 (by omega) (by omega), fun r_z j_z a1_z a2 => by rw [ho r_z j_z (by omega) (by omega) (by omega)]; exact h2 r_z j_z a1_z a2, by rw [← h3]; funext j_z; exact ho 33 j_z (by omega) (by omega) (by omega), by rw [← h4]; funext j_z; exact ho 34 j_z (by omega) (by omega) (by omega), rfl, rfl, by rw [upd_at], by rw [ho 0 55 (by omega) (by omega) (by omega)]; exact h8, fun i_z i0_z i1_z => by rw [ho 38 i_z (by omega) (by omega) (by omega)]; exact h9 i_z i0_z i1_z, h10.1, h10.2.1, by rw [ho 35 0 (by omega) (by omega) (by omega), h5]; exact h10.2.2⟩ ?_ (by omega)
        refine bfs_new hb h c0 c1 b0 b1 hv hno (fun d_z hd_z => ?_) ?_ (fun d_z hd_z => ?_) ?_
        · rw [ho 35 d_z (by omega) (by omega) (by omega), h5]
        · rw [upd_o (by omega), hB2, upd_o (by omega), hB1, upd_at]
        · rw [ho 36 d_z (by omega) (by omega) (by omega), h6]
        · rw [upd_o (by omega), hB2, upd_at]
      · refine ⟨oM_0 (by omega) km0 54 rfl, ?_⟩
        refine ⟨⟨by omega, by omega⟩, ?_⟩
        refine ⟨oM_0 (by omega) km0 54 rfl, ?_⟩
        refine ⟨⟨by omega, by omega⟩, ?_⟩
        exact ⟨rfl, rfl⟩
    refine wq_ok srt_Mway (fr := []) (cuts := [289]) (J := fun pc st_z => (pc = 289 ∧ st_z = ([(2, 0), (0, n), (0, m), (1, bg), (9, 0), (0, c), (0, b), (0, g), (1, v), (9, 0)], [], pm_upd B1 (B1 0 53) (B1 0 54) ((B1 (B1 0 53) c) + 1)))) ?_ 16 271 _ ?_
    · rintro pc st_z (⟨rfl, rfl⟩)
      rw [c53, k54, k36]
      exact h289 _ rfl
    · refine ⟨oM_0 (by omega) km0 53 rfl, ?_⟩
      refine ⟨oM_0 (by omega) km0 54 rfl, ?_⟩
      refine ⟨oM_0 (by omega) km0 53 rfl, ?_⟩
      refine ⟨aM_36 (r := B1 0 53) (by rw [c53]; omega) (by rw [c53]; exact kn36) (by omega) (by omega), ?_⟩
      have e1 : B1 (B1 0 53) c = B1 36 c := by rw [c53]
      refine ⟨(by rw [c53, k36]; exact ⟨by omega, by omega⟩), ?_⟩
      refine ⟨tM_36 (r := B1 0 53) (by rw [c53]; omega) (by rw [c53]; exact kn36) (by omega) (by omega) rfl, ?_⟩
      exact ⟨rfl, rfl⟩
  refine wq_ok srt_Mway (fr := []) (cuts := [271]) (J := fun pc st_z => (pc = 271 ∧ st_z = ([(2, 0), (0, n), (0, m), (1, bg), (9, 0), (0, c), (0, b), (0, g), (1, v), (9, 0)], [], pm_upd B (B 0 52) (B 0 54) v))) ?_ 11 260 _ ?_
  · rintro pc st_z (⟨rfl, rfl⟩)
    rw [c52_z, h7]
    exact h271 _ rfl
  · refine ⟨oM_0 (by omega) km0 52 rfl, ?_⟩
    refine ⟨oM_0 (by omega) km0 54 rfl, ?_⟩
    refine ⟨tM_35 (r := B 0 52) (by rw [c52_z]; omega) (by rw [c52_z]; exact kn35) (by omega) (by omega) rfl, ?_⟩
    exact ⟨rfl, rfl⟩
theorem wv_214 {A B : pm_A} {n m bg c b cm wm : Int} {bm bf V fa : Int → Int} (hw : wyS A B n bm bf V fa cm wm) (hb : bmS n bm bf m) (h : bfsI n bm bf m V fa cm c b) (c0 : 0 ≤ c) (c1 : c < cm) (b0 : 0 ≤ b) (b1 : b < m) (ht : ¬ tbt (V c) b = 0) {w7 w8 w9 : pm_V} (H : ∀ (C_z : pm_A) (V' fa' : Int → Int) (cm' : Int) (w7 w8 w9 : pm_V), wyS A C_z n bm bf V' fa' cm' wm → bfsI n bm bf m V' fa' cm' c (b + 1) → c < cm' → Tm pmt (an_sh wM) o_X10_way 188 ([(2, 0), (0, n), (0, m), (1, bg), (9, 0), (0, c), (0, b + 1), w7, w8, w9], [], C_z)  (wvP A)) : Tm pmt (an_sh wM) o_X10_way 214 ([(2, 0), (0, n), (0, m), (1, bg), (9, 0), (0, c), (0, b), w7, w8, w9], [], B)  (wvP A) := by
  have hl := h.1.1
  obtain ⟨F_z, hF, hV⟩ := h.1.2.2.1 c c0 c1
  have hn := hF.1.1
  obtain ⟨d0_z, d1_z, _⟩ := hb.2.2 b b0 b1
  have hm_z := hb.1
  have hFb : F_z (bf b) = 1 := by
    have := msk_bit hF.1 hb b0 b1
    rw [← hV] at this
    omega
  have hw0 := hw
  obtain ⟨h1, h2, h3, h4, h5, h6, h7, h8, h9, h10⟩ := hw
  have c52_z := pM_52 h1
  have ev_z : B (B 0 52) c = V c := by rw [c52_z, h5]
  refine wq_ok srt_Mway (fr := []) (cuts := [226]) (J := fun pc st_z => (pc = 226 ∧ ∃ B1, tkB_post B 1 (bitsV bm F_z 100) (none, B1) ∧ st_z = ([(2, 0), (0, n), (0, m), (1, bg), (9, 0), (0, c), (0, b), w7, w8, w9], [], B1))) ?_ 11 214 _ ?_
  · rintro pc st_z (⟨rfl, B1, hk, rfl⟩)
    have g1 : gH wM B1 := hk.2.1
    have eF := tk_F hb hF h3 hk
    have hw1 : wyS A B1 n bm bf V fa cm wm := hw0.c32 g1 hk.2.2.1
    have hC : cutS n (fcs B1 1) := cutS_congr hF eF
    have hf : fcs B1 1 (bf b) = 1 := by rw [eF _ d0_z d1_z]; exact hFb
    have e31_z : B1 31 1 = n := by rw [hw1.2.1 31 1 (by omega) (by omega)]; exact h10.2.1
    have c51_z := pM_51 g1
    have ef : B1 (B1 0 51) b = bf b := by rw [c51_z, hw1.2.2.2.1]
    refine wq_ok srt_Mway (fr := []) (cuts := [238]) (J := fun pc st_z => (pc = 238 ∧ ∃ B2 i_z o, oth n (fcs B1 1) (bf b) i_z o ∧ gH wM B2 ∧ B2 = pm_upd (pm_upd B1 32 (100 * 1 + bf b) 0) 32 (100 * 1 + cod i_z o) 1 ∧ st_z = ([(2, 0), (0, n), (0, m), (1, bg), (9, 0), (0, c), (0, b), w7, w8, w9], [(0, cod i_z o)], B2))) ?_ 11 226 _ ?_
    · rintro pc st_z (⟨rfl, B2, i_z, o, ho, q2_z, q3_z, rfl⟩)
      have hcb := cod_b hC.1 d0_z d1_z hf ho
      have hw2 : wyS A B2 n bm bf V fa cm wm := hw1.c32 q2_z (fun q_z j_z hq => by rw [q3_z, upd_o (by omega), upd_o (by omega)])
      obtain ⟨k1_z, k2_z, k3_z, k4_z, k5_z, k6_z, k7_z, k8_z, k9, k10⟩ := hw2
      have hw2 : wyS A B2 n bm bf V fa cm wm := ⟨k1_z, k2_z, k3_z, k4_z, k5_z, k6_z, k7_z, k8_z, k9, k10⟩
      have hmf : mfl n bm bf (V c) b (bitsV (B2 33) (fcs B2 1) 100) := wy_mfl hb hF b0 b1 hV k3_z eF hf ho hcb.1 hcb.2.1 q3_z
      refine wq_ok srt_Mway (fr := []) (cuts := [245]) (J := fun pc st_z => (pc = 245 ∧ st_z = ([(2, 0), (0, n), (0, m), (1, bg), (9, 0), (0, c), (0, b), (0, cod i_z o), w8, w9], [(1, bitsV (B2 33) (fcs B2 1) 100)], B2))) ?_ 8 238 _ ?_
      · rintro pc st_z (⟨rfl, rfl⟩)
        refine wq_ok srt_Mway (fr := []) (cuts := [253]) (J := fun pc st_z => (pc = 253 ∧ ∃ x_z, ((x_z = -1 ∧ ∀ d_z : Int, 0 ≤ d_z → d_z < B2 0 54 → ¬ B2 35 d_z = bitsV (B2 33) (fcs B2 1) 100) ∨ (0 ≤ x_z ∧ x_z < B2 0 54 ∧ B2 35 x_z = bitsV (B2 33) (fcs B2 1) 100)) ∧ st_z = ([(2, 0), (0, n), (0, m), (1, bg), (9, 0), (0, c), (0, b), (0, cod i_z o), (1, bitsV (B2 33) (fcs B2 1) 100), (9, 0)], [(0, x_z)], B2))) ?_ 8 245 _ ?_
        · rintro pc st_z (⟨rfl, x_z, hx, rfl⟩)
          refine wq_ok srt_Mway (fr := []) (cuts := [188, 260]) (J := fun pc st_z => (pc = 260 ∧ (x_z = ((-1))) ∧ st_z = ([(2, 0), (0, n), (0, m), (1, bg), (9, 0), (0, c), (0, b), (0, cod i_z o), (1, bitsV (B2 33) (fcs B2 1) 100), (9, 0)], [], B2)) ∨ (pc = 188 ∧ (¬ x_z = ((-1))) ∧ st_z = ([(2, 0), (0, n), (0, m), (1, bg), (9, 0), (0, c), (0, b + 1), (0, cod i_z o), (1, bitsV (B2 33) (fcs B2 1) 100), (9, 0)], [], B2))) ?_ 10 253 _ ?_
          · rintro pc st_z (⟨rfl, h0, rfl⟩ | ⟨rfl, h0, rfl⟩)
            · exact wv_260 hw2 hb h c0 c1 b0 b1 hmf (bitsV_i64 _ _ _) (fun d_z k0_z k1_z => by rcases hx with ⟨_, hx⟩ | hx; exact (by have := hx d_z k0_z (by omega); rwa [k5_z] at this); omega) H
            · refine H B2 V fa cm _ _ _ hw2 ?_ c1
              rcases hx with hx | ⟨x0_z, x1_z, x2_z⟩
              · exact absurd hx.1 h0
              · exact bfs_old hb h c1 hmf x0_z (by omega) (by rw [← x2_z, k5_z])
          · refine ⟨fun h0 => ?_, fun h0 => ?_⟩
            · exact Or.inl (⟨rfl, h0, rfl⟩)
            · refine ⟨⟨by omega, by omega⟩, ?_⟩
              exact Or.inr (⟨rfl, h0, rfl⟩)
        · refine ⟨rM_0 (by omega) km0, ?_⟩
          refine (cuttingOf_ex q2_z).imp ?_
          rintro ⟨r1_z, C_z⟩ ⟨p1_z, x_z, p2_z, hx⟩
          simp only at p1_z p2_z
          subst p1_z
          subst p2_z
          exact ⟨rfl, x_z, hx, rfl⟩
      · refine ⟨rM_0 (by omega) km0, ?_⟩
        refine (bits_ex (sl := 1) q2_z (by omega) (by omega)).imp ?_
        rintro r_z rfl
        exact ⟨rfl, rfl⟩
    · refine ⟨oM_0 (by omega) km0 51 rfl, ?_⟩
      refine ⟨aM_34 (r := B1 0 51) (by rw [c51_z]; omega) (by rw [c51_z]; exact kn34) (by omega) (by omega), ?_⟩
      have e1 : B1 (B1 0 51) b = B1 34 b := by rw [c51_z]
      refine ⟨rM_0 (by omega) km0, ?_⟩
      rw [ef]
      refine (flips_ex (sl := 1) g1 (by omega) (by omega) (by rw [e31_z]; exact hC) d0_z d1_z hf).imp ?_
      rintro ⟨r1_z, B2⟩ ⟨i_z, o, ho, q1_z, q2_z, q3_z⟩
      simp only at q1_z q2_z q3_z
      subst q1_z
      rw [e31_z] at ho
      exact ⟨rfl, B2, i_z, o, ho, q2_z, q3_z, rfl⟩
  · refine ⟨oM_0 (by omega) km0 52 rfl, ?_⟩
    refine ⟨aM_35 (r := B 0 52) (by rw [c52_z]; omega) (by rw [c52_z]; exact kn35) (by omega) (by omega), ?_⟩
    have e1 : B (B 0 52) c = B 35 c := by rw [c52_z]
    refine ⟨rM_0 (by omega) km0, ?_⟩
    refine (takesBits_ex (sl := 1) h1 (by omega) (by omega)).imp ?_
    rintro ⟨r1_z, B1⟩ hk
    have q1_z := hk.1
    simp only at q1_z
    subst q1_z
    rw [ev_z, hV] at hk
    exact ⟨rfl, B1, hk, rfl⟩
theorem wv_188 {A : pm_A} {n m bg c wm : Int} {bm bf : Int → Int} (hb : bmS n bm bf m) (c0 : 0 ≤ c) (H : ∀ (C_z : pm_A) (V fa : Int → Int) (cm : Int) (w6_z w7_z w8 w9 : pm_V), wyS A C_z n bm bf V fa cm wm → bfsI n bm bf m V fa cm (c + 1) 0 → Tm pmt (an_sh wM) o_X10_way 305 ([(2, 0), (0, n), (0, m), (1, bg), (9, 0), (0, c), w6_z, w7_z, w8, w9], [], C_z)  (wvP A)) : ∀ (k_z : Nat) (b_z : Int) (w7_z w8 w9 : pm_V) (B_z : pm_A) (V fa : Int → Int) (cm : Int), (35 - b_z).toNat < k_z → 0 ≤ b_z → b_z ≤ 35 → wyS A B_z n bm bf V fa cm wm → bfsI n bm bf m V fa cm c b_z → c < cm → Tm pmt (an_sh wM) o_X10_way 188 ([(2, 0), (0, n), (0, m), (1, bg), (9, 0), (0, c), (0, b_z), w7_z, w8, w9], [], B_z)  (wvP A) := by
  have hm_z := hb.1
  intro k_z
  induction k_z with
  | zero => intro b_z w7_z w8 w9 B_z V fa cm h_z; omega
  | succ k_z ih_z =>
    intro b_z w7_z w8 w9 B_z V fa cm hk b0 b1 hw h_z c1_z
    have hl := h_z.1.1
    have hw0 := hw
    obtain ⟨h1, h2, h3, h4, h5, h6, h7, h8, h9, h10⟩ := hw
    have c52_z := pM_52 h1
    have ev_z : B_z (B_z 0 52) c = V c := by rw [c52_z, h5]
    refine wq_ok srt_Mway (fr := []) (cuts := [188, 214, 305]) (J := fun pc st_z => (pc = 305 ∧ (m ≤ b_z) ∧ st_z = ([(2, 0), (0, n), (0, m), (1, bg), (9, 0), (0, c), (0, b_z), w7_z, w8, w9], [], B_z)) ∨ (pc = 214 ∧ (b_z < m) ∧ (0 < (tbt (B_z (B_z 0 52) c) b_z)) ∧ st_z = ([(2, 0), (0, n), (0, m), (1, bg), (9, 0), (0, c), (0, b_z), w7_z, w8, w9], [], B_z)) ∨ (pc = 188 ∧ (b_z < m) ∧ ((tbt (B_z (B_z 0 52) c) b_z) = 0) ∧ st_z = ([(2, 0), (0, n), (0, m), (1, bg), (9, 0), (0, c), (0, b_z + 1), w7_z, w8, w9], [], B_z)) ∨ (pc = 214 ∧ (b_z < m) ∧ ((tbt (B_z (B_z 0 52) c) b_z) < 0) ∧ st_z = ([(2, 0), (0, n), (0, m), (1, bg), (9, 0), (0, c), (0, b_z), w7_z, w8, w9], [], B_z))) ?_ 22 188 _ ?_
    · rintro pc st_z (⟨rfl, h0, rfl⟩ | ⟨rfl, h0, h1_, rfl⟩ | ⟨rfl, h0, h1_, rfl⟩ | ⟨rfl, h0, h1_, rfl⟩)
      · exact H B_z V fa cm _ _ _ _ hw0 (bfs_next h_z c0 (by omega))
      · rw [ev_z] at h1_
        exact wv_214 hw0 hb h_z c0 c1_z b0 (by omega) (by omega) (fun C_z V' fa' cm' w7_z w8 w9 hC hI hc_z => ih_z (b_z + 1) w7_z w8 w9 C_z V' fa' cm' (by omega) (by omega) (by omega) hC hI hc_z)
      · rw [ev_z] at h1_
        exact ih_z (b_z + 1) _ _ _ B_z V fa cm (by omega) (by omega) (by omega) hw0 (bfs_skip hb h_z h1_) c1_z
      · rw [ev_z] at h1_
        exact wv_214 hw0 hb h_z c0 c1_z b0 (by omega) (by omega) (fun C_z V' fa' cm' w7_z w8 w9 hC hI hc_z => ih_z (b_z + 1) w7_z w8 w9 C_z V' fa' cm' (by omega) (by omega) (by omega) hC hI hc_z)
    · refine ⟨fun h0 => ?_, fun h0 => ?_⟩
      · exact Or.inl (⟨rfl, h0, rfl⟩)
      · refine ⟨oM_0 (by omega) km0 52 rfl, ?_⟩
        refine ⟨aM_35 (r := B_z 0 52) (by rw [c52_z]; omega) (by rw [c52_z]; exact kn35) (by omega) (by omega), ?_⟩
        have e1 : B_z (B_z 0 52) c = B_z 35 c := by rw [c52_z]
        refine ⟨fun h1_ => ?_, fun h1_ => ?_, fun h1_ => ?_⟩
        · refine ⟨fun _ => ?_, fun hh => absurd hh (by decide)⟩
          exact Or.inr (Or.inl (⟨rfl, h0, h1_, rfl⟩))
        · refine ⟨fun hh => absurd hh (by decide), fun _ => ?_⟩
          refine ⟨⟨by omega, by omega⟩, ?_⟩
          exact Or.inr (Or.inr (Or.inl (⟨rfl, h0, h1_, rfl⟩)))
        · refine ⟨fun _ => ?_, fun hh => absurd hh (by decide)⟩
          exact Or.inr (Or.inr (Or.inr (⟨rfl, h0, h1_, rfl⟩)))
theorem wv_176 {A : pm_A} {n m bg wm : Int} {bm bf : Int → Int} (hb : bmS n bm bf m) (m0 : 0 ≤ m) (H : ∀ (C_z : pm_A) (V fa : Int → Int) (cm c_z : Int) (w6_z w7_z w8 w9 : pm_V), wyS A C_z n bm bf V fa cm wm → bfsI n bm bf m V fa cm c_z 0 → cm ≤ c_z → Tm pmt (an_sh wM) o_X10_way 311 ([(2, 0), (0, n), (0, m), (1, bg), (9, 0), (0, c_z), w6_z, w7_z, w8, w9], [], C_z)  (wvP A)) : ∀ (k_z : Nat) (c_z : Int) (w6_z w7_z w8 w9 : pm_V) (B_z : pm_A) (V fa : Int → Int) (cm : Int), (1430 - c_z).toNat < k_z → 0 ≤ c_z → c_z ≤ 1430 → wyS A B_z n bm bf V fa cm wm → bfsI n bm bf m V fa cm c_z 0 → Tm pmt (an_sh wM) o_X10_way 176 ([(2, 0), (0, n), (0, m), (1, bg), (9, 0), (0, c_z), w6_z, w7_z, w8, w9], [], B_z)  (wvP A) := by
  intro k_z
  induction k_z with
  | zero => intro c_z w6_z w7_z w8 w9 B_z V fa cm h_z; omega
  | succ k_z ih_z =>
    intro c_z w6_z w7_z w8 w9 B_z V fa cm hk c0_z c1_z hw h_z
    have hl := h_z.1.1
    have h7 := hw.2.2.2.2.2.2.1
    have h305 : c_z < 1430 → ∀ (C_z : pm_A) (V fa : Int → Int) (cm : Int) (w6_z w7_z w8 w9 : pm_V), wyS A C_z n bm bf V fa cm wm → bfsI n bm bf m V fa cm (c_z + 1) 0 → Tm pmt (an_sh wM) o_X10_way 305 ([(2, 0), (0, n), (0, m), (1, bg), (9, 0), (0, c_z), w6_z, w7_z, w8, w9], [], C_z)  (wvP A) := fun hc_z C_z V fa cm w6_z w7_z w8 w9 hw h_z => by
      refine wq_ok srt_Mway (fr := []) (cuts := [176]) (J := fun pc st_z => (pc = 176 ∧ st_z = ([(2, 0), (0, n), (0, m), (1, bg), (9, 0), (0, c_z + 1), w6_z, w7_z, w8, w9], [], C_z))) ?_ 7 305 _ ?_
      · rintro pc st_z (⟨rfl, rfl⟩)
        exact ih_z (c_z + 1) _ _ _ _ C_z V fa cm (by omega) (by omega) (by omega) hw h_z
      · refine ⟨⟨by omega, by omega⟩, ?_⟩
        exact ⟨rfl, rfl⟩
    refine wq_ok srt_Mway (fr := []) (cuts := [188, 311]) (J := fun pc st_z => (pc = 311 ∧ ((B_z 0 54) ≤ c_z) ∧ st_z = ([(2, 0), (0, n), (0, m), (1, bg), (9, 0), (0, c_z), w6_z, w7_z, w8, w9], [], B_z)) ∨ (pc = 188 ∧ (c_z < (B_z 0 54)) ∧ st_z = ([(2, 0), (0, n), (0, m), (1, bg), (9, 0), (0, c_z), (0, 0), w7_z, w8, w9], [], B_z))) ?_ 11 176 _ ?_
    · rintro pc st_z (⟨rfl, h0, rfl⟩ | ⟨rfl, h0, rfl⟩)
      · rw [h7] at h0
        exact H B_z V fa cm c_z _ _ _ _ hw h_z h0
      · rw [h7] at h0
        exact wv_188 hb c0_z (h305 (by omega)) _ 0 _ _ _ B_z V fa cm (Nat.lt_succ_self _) (by omega) (by omega) hw h_z h0
    · refine ⟨oM_0 (by omega) km0 54 rfl, ?_⟩
      refine ⟨fun h0 => ?_, fun h0 => ?_⟩
      · exact Or.inl (⟨rfl, h0, rfl⟩)
      · exact Or.inr (⟨rfl, h0, rfl⟩)
set_option maxRecDepth 4000 in
theorem wv_474 {A : pm_A} {n m bg here wm : Int} {bm bf V fa : Int → Int} {cm : Int} {wf : Int → Int} (hA : RI A) (hfin : ∀ C_z : pm_A, C_z 0 55 = wm → (∀ j_z : Int, C_z 37 j_z = wf j_z) → wvQ A (some (0, wm), C_z)) : ∀ (k_z : Nat) (i_z : Int) (w7_z w8 w9 : pm_V) (B_z : pm_A), (200 - i_z).toNat < k_z → 0 ≤ i_z → i_z ≤ 200 → wyS A B_z n bm bf V fa cm wm → (∀ j_z : Int, 0 ≤ j_z → j_z < i_z → B_z 32 j_z = A 32 j_z) → (∀ j_z : Int, B_z 37 j_z = wf j_z) → Tm pmt (an_sh wM) o_X10_way 474 ([(2, 0), (0, n), (0, m), (1, bg), (9, 0), (0, here), (0, i_z), w7_z, w8, w9], [], B_z)  (wvP A) := by
  intro k_z
  induction k_z with
  | zero => intro i_z w7_z w8 w9 B_z h_z; omega
  | succ k_z ih_z =>
    intro i_z w7_z w8 w9 B_z hk i0_z i1_z hw hs hq
    have hw0 := hw
    obtain ⟨h1, h2, h3, h4, h5, h6, h7, h8, h9, h10⟩ := hw
    have c49 := pM_49 h1
    have c57 := pM_57 h1
    have b38 : i_z < 200 → 0 ≤ B_z 38 i_z ∧ B_z 38 i_z ≤ 1 := fun h_z => eM_38 h1 (r := 38) (by omega) kn38 i0_z h_z
    have fin_z : 200 ≤ i_z → RI B_z := fun hi_z => hA.ring h1 (fun r_z j_z a1_z a2 a3 a4 a5 a6 a7 a8 a9 => h2 r_z j_z (by omega) a9) (fun t_z ht => by
      rw [h2 31 t_z (by omega) (by omega)]
      exact rgS_congr (hA.2.2 t_z ht) (fun x_z x0_z x1_z => hs _ (by omega) (by omega)))
    refine wq_ok srt_Mway (fr := []) (cuts := [474]) (J := fun pc st_z => (pc = 474 ∧ (i_z < 200) ∧ st_z = ([(2, 0), (0, n), (0, m), (1, bg), (9, 0), (0, here), (0, i_z + 1), w7_z, w8, w9], [], pm_upd B_z (B_z 0 49) i_z (B_z (B_z 0 57) i_z)))) ?_ 18 474 _ ?_
    · rintro pc st_z (⟨rfl, h0, rfl⟩)
      rw [c49, c57]
      have b_z := b38 (by omega)
      refine ih_z (i_z + 1) _ _ _ _ (by omega) (by omega) (by omega) (hw0.c32 (uM_32 h1 kn32 b_z.1 b_z.2) (fun q_z j_z hq => upd_o (by omega))) (fun j_z j0 j1 => ?_) (fun j_z => by rw [upd_o (by omega)]; exact hq j_z)
      by_cases e_z : j_z = i_z
      · rw [e_z, upd_at]; exact h9 i_z i0_z (by omega)
      · rw [upd_o (by omega)]; exact hs j_z j0 (by omega)
    · refine ⟨fun h0 => ?_, fun h0 => ?_⟩
      · refine ⟨oM_0 (by omega) km0 55 rfl, ?_⟩
        exact ⟨rfl, ⟨⟨_, rfl⟩, fin_z (by omega)⟩, fun s_z => h2 31 s_z (by omega) (by omega), fun j_z j0 j1 => hs j_z j0 (by omega), by rw [h8]; exact hfin B_z h8 hq⟩
      · refine ⟨oM_0 (by omega) km0 49 rfl, ?_⟩
        refine ⟨oM_0 (by omega) km0 57 rfl, ?_⟩
        refine ⟨aM_38 (r := B_z 0 57) (by rw [c57]; omega) (by rw [c57]; exact kn38) (by omega) (by omega), ?_⟩
        have e1 : B_z (B_z 0 57) i_z = B_z 38 i_z := by rw [c57]
        refine ⟨tM_32 (r := B_z 0 49) (by rw [c49]; omega) (by rw [c49]; exact kn32) (by omega) (by omega) (okZ (by rw [c57]; exact (b38 (by omega)).1) (by rw [c57]; exact (b38 (by omega)).2)), ?_⟩
        refine ⟨⟨by omega, by omega⟩, ?_⟩
        exact ⟨rfl, h0, rfl⟩
set_option maxRecDepth 4000 in
theorem wv_425 {A B : pm_A} {n m bg here th b cc cm wm : Int} {bm bf V fa wf : Int → Int} (hw : wyS A B n bm bf V fa cm wm) (hb : bmS n bm bf m) (h : bfsI n bm bf m V fa cm cc 0) (hcc : cm ≤ cc) (p0 : 0 ≤ here) (p1 : here < cm) {x : Int} (b0 : 0 ≤ b) (b1 : b < m) (w0 : 0 ≤ wm) (w1 : wm < 64) (hq : ∀ j_z : Int, ¬ j_z = wm → B 37 j_z = wf j_z) (hmx : mfl n bm bf (V here) b (V x)) {g : Int} (x0 : 0 ≤ x) (x1 : x < cm) (hx : fa x = fa here - 1) (H : ∀ (C_z : pm_A) (th' : Int) (w8 w9 : pm_V), wyS A C_z n bm bf V fa cm wm → (∀ j_z : Int, ¬ j_z = wm → C_z 37 j_z = wf j_z) → dnJ n bm bf m V fa cm here th' (b - 1) (C_z 37 wm) → Tm pmt (an_sh wM) o_X10_way 341 ([(2, 0), (0, n), (0, m), (1, bg), (9, 0), (0, here), (0, th'), (0, b + (-1)), w8, w9], [], C_z)  (wvP A)) : Tm pmt (an_sh wM) o_X10_way 425 ([(2, 0), (0, n), (0, m), (1, bg), (9, 0), (0, here), (0, th), (0, b), (0, g), (0, x)], [], B)  (wvP A) := by
  have hm_z := hb.1
  have hw0 := hw
  obtain ⟨h1, h2, h3, h4, h5, h6, h7, h8, h9, h10⟩ := hw
  have c51_z := pM_51 h1
  have c56 := pM_56 h1
  obtain ⟨d0_z, d1_z, _⟩ := hb.2.2 b b0 b1
  have ef : B (B 0 51) b = bf b := by rw [c51_z, h4]
  refine wq_ok srt_Mway (fr := []) (cuts := [447]) (J := fun pc st_z => (pc = 447 ∧ ∃ z_z, z_z = nam (bf b) ∧ st_z = ([(2, 0), (0, n), (0, m), (1, bg), (9, 0), (0, here), (0, x), (0, b), (0, g), (0, x)], [(0, z_z), (0, B 0 55), (2, B 0 56)], B))) ?_ 15 425 _ ?_
  · rintro pc st_z (⟨rfl, z_z, zn_z, rfl⟩)
    have z0 : 0 ≤ z_z ∧ z_z ≤ 999 := by rw [zn_z]; unfold nam; omega
    refine wq_ok srt_Mway (fr := []) (cuts := [341]) (J := fun pc st_z => (pc = 341 ∧ st_z = ([(2, 0), (0, n), (0, m), (1, bg), (9, 0), (0, here), (0, x), (0, b + (-1)), (0, g), (0, x)], [], pm_upd B (B 0 56) (B 0 55) z_z))) ?_ 8 447 _ ?_
    · rintro pc st_z (⟨rfl, rfl⟩)
      rw [c56, h8]
      exact H _ x _ _ ⟨uM_37 h1 kn37 (by omega) (by omega), fun r_z j_z a1_z a2 => by rw [upd_o (by omega)]; exact h2 r_z j_z a1_z a2, by rw [← h3]; funext j_z; exact upd_o (by omega), by rw [← h4]; funext j_z; exact upd_o (by omega), by rw [← h5]; funext j_z; exact upd_o (by omega), by rw [← h6]; funext j_z; exact upd_o (by omega), by rw [upd_o (by omega)]; exact h7, by rw [upd_o (by omega)]; exact h8, fun i_z i0_z i1_z => by rw [upd_o (by omega)]; exact h9 i_z i0_z i1_z, h10⟩ (fun j_z hj => by rw [upd_o (by omega)]; exact hq j_z hj) (Or.inr ⟨b, ⟨⟨by omega, b1⟩, hmx, by rw [upd_at]; exact zn_z⟩, ⟨x0, x1, hx⟩, fun b' w' e_z y0 y1 => by omega⟩)
    · refine ⟨tM_37 (r := B 0 56) (by rw [c56]; omega) (by rw [c56]; exact kn37) (by omega) (by omega) rfl, ?_⟩
      refine ⟨⟨by omega, by omega⟩, ?_⟩
      exact ⟨rfl, rfl⟩
  · refine ⟨oM_0 (by omega) km0 56 rfl, ?_⟩
    refine ⟨oM_0 (by omega) km0 55 rfl, ?_⟩
    refine ⟨oM_0 (by omega) km0 51 rfl, ?_⟩
    refine ⟨aM_34 (r := B 0 51) (by rw [c51_z]; omega) (by rw [c51_z]; exact kn34) (by omega) (by omega), ?_⟩
    have e1 : B (B 0 51) b = B 34 b := by rw [c51_z]
    refine ⟨rfl, ?_⟩
    rw [ef]
    refine (mnamed_eq d0_z (by omega)).imp ?_
    rintro ⟨r1_z, D_z⟩ ⟨q1_z, q2_z⟩
    simp only at q1_z q2_z
    subst q1_z
    subst q2_z
    exact ⟨rfl, _, rfl, rfl⟩
set_option maxRecDepth 4000 in
theorem wv_366 {A B : pm_A} {n m bg here th b cc cm wm : Int} {bm bf V fa wf : Int → Int} (hw : wyS A B n bm bf V fa cm wm) (hb : bmS n bm bf m) (h : bfsI n bm bf m V fa cm cc 0) (hcc : cm ≤ cc) (p0 : 0 ≤ here) (p1 : here < cm) (b0 : 0 ≤ b) (b1 : b < m) (w0 : 0 ≤ wm) (w1 : wm < 64) (hq : ∀ j_z : Int, ¬ j_z = wm → B 37 j_z = wf j_z) (hd : dnJ n bm bf m V fa cm here th b (B 37 wm)) (ht : ¬ tbt (V here) b = 0) {w8 w9 : pm_V} (H : ∀ (C_z : pm_A) (th' : Int) (w8 w9 : pm_V), wyS A C_z n bm bf V fa cm wm → (∀ j_z : Int, ¬ j_z = wm → C_z 37 j_z = wf j_z) → dnJ n bm bf m V fa cm here th' (b - 1) (C_z 37 wm) → Tm pmt (an_sh wM) o_X10_way 341 ([(2, 0), (0, n), (0, m), (1, bg), (9, 0), (0, here), (0, th'), (0, b + (-1)), w8, w9], [], C_z)  (wvP A)) : Tm pmt (an_sh wM) o_X10_way 366 ([(2, 0), (0, n), (0, m), (1, bg), (9, 0), (0, here), (0, th), (0, b), w8, w9], [], B)  (wvP A) := by
  have hl := h.1.1
  obtain ⟨F_z, hF, hV⟩ := h.1.2.2.1 here p0 p1
  have hfh := h.1.2.2.2.2.2.2 here p0 p1
  have hn := hF.1.1
  obtain ⟨d0_z, d1_z, _⟩ := hb.2.2 b b0 b1
  have hm_z := hb.1
  have hFb : F_z (bf b) = 1 := by
    have := msk_bit hF.1 hb b0 b1
    rw [← hV] at this
    omega
  have hw0 := hw
  obtain ⟨h1, h2, h3, h4, h5, h6, h7, h8, h9, h10⟩ := hw
  have c52_z := pM_52 h1
  have ev_z : B (B 0 52) here = V here := by rw [c52_z, h5]
  refine wq_ok srt_Mway (fr := []) (cuts := [378]) (J := fun pc st_z => (pc = 378 ∧ ∃ B1, tkB_post B 0 (bitsV bm F_z 100) (none, B1) ∧ st_z = ([(2, 0), (0, n), (0, m), (1, bg), (9, 0), (0, here), (0, th), (0, b), w8, w9], [], B1))) ?_ 11 366 _ ?_
  · rintro pc st_z (⟨rfl, B1, hk, rfl⟩)
    have g1 : gH wM B1 := hk.2.1
    have eF := tk_F hb hF h3 hk
    have hw1 : wyS A B1 n bm bf V fa cm wm := hw0.c32 g1 hk.2.2.1
    have hC : cutS n (fcs B1 0) := cutS_congr hF eF
    have hf : fcs B1 0 (bf b) = 1 := by rw [eF _ d0_z d1_z]; exact hFb
    have e31_z : B1 31 0 = n := by rw [hw1.2.1 31 0 (by omega) (by omega)]; exact h10.1
    have c51_z := pM_51 g1
    have ef : B1 (B1 0 51) b = bf b := by rw [c51_z, hw1.2.2.2.1]
    refine wq_ok srt_Mway (fr := []) (cuts := [390]) (J := fun pc st_z => (pc = 390 ∧ ∃ B2 i_z o, oth n (fcs B1 0) (bf b) i_z o ∧ gH wM B2 ∧ B2 = pm_upd (pm_upd B1 32 (100 * 0 + bf b) 0) 32 (100 * 0 + cod i_z o) 1 ∧ st_z = ([(2, 0), (0, n), (0, m), (1, bg), (9, 0), (0, here), (0, th), (0, b), w8, w9], [(0, cod i_z o)], B2))) ?_ 11 378 _ ?_
    · rintro pc st_z (⟨rfl, B2, i_z, o, ho, q2_z, q3_z, rfl⟩)
      have hcb := cod_b hC.1 d0_z d1_z hf ho
      have hw2 : wyS A B2 n bm bf V fa cm wm := hw1.c32 q2_z (fun q_z j_z hq => by rw [q3_z, upd_o (by omega), upd_o (by omega)])
      have e37 : ∀ j_z : Int, B2 37 j_z = B 37 j_z := fun j_z => by rw [q3_z, upd_o (by omega), upd_o (by omega)]; exact hk.2.2.1 37 j_z (by omega)
      obtain ⟨k1_z, k2_z, k3_z, k4_z, k5_z, k6_z, k7_z, k8_z, k9, k10⟩ := hw2
      have hw2 : wyS A B2 n bm bf V fa cm wm := ⟨k1_z, k2_z, k3_z, k4_z, k5_z, k6_z, k7_z, k8_z, k9, k10⟩
      have hmf : mfl n bm bf (V here) b (bitsV (B2 33) (fcs B2 0) 100) := wy_mfl hb hF b0 b1 hV k3_z eF hf ho hcb.1 hcb.2.1 q3_z
      refine wq_ok srt_Mway (fr := []) (cuts := [398]) (J := fun pc st_z => (pc = 398 ∧ st_z = ([(2, 0), (0, n), (0, m), (1, bg), (9, 0), (0, here), (0, th), (0, b), (0, cod i_z o), w9], [(1, bitsV (B2 33) (fcs B2 0) 100), (2, 0)], B2))) ?_ 9 390 _ ?_
      · rintro pc st_z (⟨rfl, rfl⟩)
        refine wq_ok srt_Mway (fr := []) (cuts := [401]) (J := fun pc st_z => (pc = 401 ∧ ∃ x_z, ((x_z = -1 ∧ ∀ d_z : Int, 0 ≤ d_z → d_z < B2 0 54 → ¬ B2 35 d_z = bitsV (B2 33) (fcs B2 0) 100) ∨ (0 ≤ x_z ∧ x_z < B2 0 54 ∧ B2 35 x_z = bitsV (B2 33) (fcs B2 0) 100)) ∧ st_z = ([(2, 0), (0, n), (0, m), (1, bg), (9, 0), (0, here), (0, th), (0, b), (0, cod i_z o), w9], [(0, x_z)], B2))) ?_ 5 398 _ ?_
        · rintro pc st_z (⟨rfl, x_z, hx, rfl⟩)
          have hx2 : 0 ≤ x_z ∧ x_z < cm ∧ V x_z = bitsV (B2 33) (fcs B2 0) 100 := by
            rcases hx with ⟨_, hx⟩ | ⟨y0, y1, y2⟩
            · obtain ⟨e_z, e0_z, e1, e2, _⟩ := h.2.2 here b _ p0 p1 b0 b1 (by omega) hmf
              exact absurd (by rw [k5_z]; exact e2) (hx e_z e0_z (by omega))
            · exact ⟨y0, by omega, by rw [← k5_z]; exact y2⟩
          obtain ⟨x0_z, x1_z, x2_z⟩ := hx2
          have c53 := pM_53 q2_z
          refine wq_ok srt_Mway (fr := []) (cuts := [341, 425]) (J := fun pc st_z => (pc = 425 ∧ ((B2 (B2 0 53) x_z) = ((B2 (B2 0 53) here) - 1)) ∧ st_z = ([(2, 0), (0, n), (0, m), (1, bg), (9, 0), (0, here), (0, th), (0, b), (0, cod i_z o), (0, x_z)], [], B2)) ∨ (pc = 341 ∧ (¬ (B2 (B2 0 53) x_z) = ((B2 (B2 0 53) here) - 1)) ∧ st_z = ([(2, 0), (0, n), (0, m), (1, bg), (9, 0), (0, here), (0, th), (0, b + (-1)), (0, cod i_z o), (0, x_z)], [], B2))) ?_ 20 401 _ ?_
          · rintro pc st_z (⟨rfl, h0, rfl⟩ | ⟨rfl, h0, rfl⟩)
            · rw [c53, k6_z] at h0
              exact wv_425 hw2 hb h hcc p0 p1 b0 b1 w0 w1 (fun j_z hj => by rw [e37 j_z]; exact hq j_z hj) (by rw [x2_z]; exact hmf) x0_z x1_z h0 H
            · rw [c53, k6_z] at h0
              refine H B2 th _ _ hw2 (fun j_z hj => by rw [e37 j_z]; exact hq j_z hj) (by
                rw [e37 wm]
                refine hd.skip (fun w_z e_z y2 y3 y4 y5 => ?_)
                have e1 : w_z = bitsV (B2 33) (fcs B2 0) 100 := mfl_det hb b0 b1 y2 hmf
                have e2 : e_z = x_z := h.1.at y3 y4 x0_z x1_z (by rw [y5, e1, x2_z])
                rw [e2]; exact h0)
          · refine ⟨oM_0 (by omega) km0 53 rfl, ?_⟩
            refine ⟨aM_36 (r := B2 0 53) (by rw [c53]; omega) (by rw [c53]; exact kn36) (by omega) (by omega), ?_⟩
            have e1 : B2 (B2 0 53) x_z = B2 36 x_z := by rw [c53]
            refine ⟨oM_0 (by omega) km0 53 rfl, ?_⟩
            refine ⟨aM_36 (r := B2 0 53) (by rw [c53]; omega) (by rw [c53]; exact kn36) (by omega) (by omega), ?_⟩
            have e2 : B2 (B2 0 53) here = B2 36 here := by rw [c53]
            refine ⟨(by rw [c53, k6_z]; exact ⟨by omega, by omega⟩), ?_⟩
            refine ⟨fun h0 => ?_, fun h0 => ?_⟩
            · exact Or.inl (⟨rfl, h0, rfl⟩)
            · refine ⟨⟨by omega, by omega⟩, ?_⟩
              exact Or.inr (⟨rfl, h0, rfl⟩)
        · refine ⟨rM_0 (by omega) km0, ?_⟩
          refine (cuttingOf_ex q2_z).imp ?_
          rintro ⟨r1_z, C_z⟩ ⟨p1_, x_z, p2_, hx⟩
          simp only at p1_ p2_
          subst p1_
          subst p2_
          exact ⟨rfl, x_z, hx, rfl⟩
      · refine ⟨rM_0 (by omega) km0, ?_⟩
        refine (bits_ex (sl := 0) q2_z (by omega) (by omega)).imp ?_
        rintro r_z rfl
        exact ⟨rfl, rfl⟩
    · refine ⟨oM_0 (by omega) km0 51 rfl, ?_⟩
      refine ⟨aM_34 (r := B1 0 51) (by rw [c51_z]; omega) (by rw [c51_z]; exact kn34) (by omega) (by omega), ?_⟩
      have e1 : B1 (B1 0 51) b = B1 34 b := by rw [c51_z]
      refine ⟨rM_0 (by omega) km0, ?_⟩
      rw [ef]
      refine (flips_ex (sl := 0) g1 (by omega) (by omega) (by rw [e31_z]; exact hC) d0_z d1_z hf).imp ?_
      rintro ⟨r1_z, B2⟩ ⟨i_z, o, ho, q1_z, q2_z, q3_z⟩
      simp only at q1_z q2_z q3_z
      subst q1_z
      rw [e31_z] at ho
      exact ⟨rfl, B2, i_z, o, ho, q2_z, q3_z, rfl⟩
  · refine ⟨oM_0 (by omega) km0 52 rfl, ?_⟩
    refine ⟨aM_35 (r := B 0 52) (by rw [c52_z]; omega) (by rw [c52_z]; exact kn35) (by omega) (by omega), ?_⟩
    have e1 : B (B 0 52) here = B 35 here := by rw [c52_z]
    refine ⟨rM_0 (by omega) km0, ?_⟩
    refine (takesBits_ex (sl := 0) h1 (by omega) (by omega)).imp ?_
    rintro ⟨r1_z, B1⟩ hk
    have q1_z := hk.1
    simp only at q1_z
    subst q1_z
    rw [ev_z, hV] at hk
    exact ⟨rfl, B1, hk, rfl⟩
set_option maxRecDepth 4000 in
theorem wv_341 {A : pm_A} {n m bg here cc cm wm : Int} {bm bf V fa wf : Int → Int} (hb : bmS n bm bf m) (h : bfsI n bm bf m V fa cm cc 0) (hcc : cm ≤ cc) (p0 : 0 ≤ here) (p1 : here < cm) (w0 : 0 ≤ wm) (w1 : wm < 64) (H : ∀ (C_z : pm_A) (th b_z : Int) (w8 w9 : pm_V), wyS A C_z n bm bf V fa cm wm → (∀ j_z : Int, ¬ j_z = wm → C_z 37 j_z = wf j_z) → dnJ n bm bf m V fa cm here th b_z (C_z 37 wm) → b_z = -1 → Tm pmt (an_sh wM) o_X10_way 454 ([(2, 0), (0, n), (0, m), (1, bg), (9, 0), (0, here), (0, th), (0, b_z), w8, w9], [], C_z)  (wvP A)) : ∀ (k_z : Nat) (b_z th : Int) (w8 w9 : pm_V) (B_z : pm_A), (b_z + 1).toNat < k_z → -1 ≤ b_z → b_z < m → wyS A B_z n bm bf V fa cm wm → (∀ j_z : Int, ¬ j_z = wm → B_z 37 j_z = wf j_z) → dnJ n bm bf m V fa cm here th b_z (B_z 37 wm) → Tm pmt (an_sh wM) o_X10_way 341 ([(2, 0), (0, n), (0, m), (1, bg), (9, 0), (0, here), (0, th), (0, b_z), w8, w9], [], B_z)  (wvP A) := by
  have hm_z := hb.1
  have hl := h.1.1
  intro k_z
  induction k_z with
  | zero => intro b_z th w8 w9 B_z h; omega
  | succ k_z ih_z =>
    intro b_z th w8 w9 B_z hk b0 b1 hw hq hd_z
    have hw0 := hw
    obtain ⟨h1, h2, h3, h4, h5, h6, h7, h8, h9, h10⟩ := hw
    have c52_z := pM_52 h1
    have ev_z : B_z (B_z 0 52) here = V here := by rw [c52_z, h5]
    refine wq_ok srt_Mway (fr := []) (cuts := [341, 366, 454]) (J := fun pc st_z => (pc = 454 ∧ (b_z < 0) ∧ st_z = ([(2, 0), (0, n), (0, m), (1, bg), (9, 0), (0, here), (0, th), (0, b_z), w8, w9], [], B_z)) ∨ (pc = 366 ∧ (0 ≤ b_z) ∧ (0 < (tbt (B_z (B_z 0 52) here) b_z)) ∧ st_z = ([(2, 0), (0, n), (0, m), (1, bg), (9, 0), (0, here), (0, th), (0, b_z), w8, w9], [], B_z)) ∨ (pc = 341 ∧ (0 ≤ b_z) ∧ ((tbt (B_z (B_z 0 52) here) b_z) = 0) ∧ st_z = ([(2, 0), (0, n), (0, m), (1, bg), (9, 0), (0, here), (0, th), (0, b_z + (-1)), w8, w9], [], B_z)) ∨ (pc = 366 ∧ (0 ≤ b_z) ∧ ((tbt (B_z (B_z 0 52) here) b_z) < 0) ∧ st_z = ([(2, 0), (0, n), (0, m), (1, bg), (9, 0), (0, here), (0, th), (0, b_z), w8, w9], [], B_z))) ?_ 21 341 _ ?_
    · rintro pc st_z (⟨rfl, h0, rfl⟩ | ⟨rfl, h0, h1_, rfl⟩ | ⟨rfl, h0, h1_, rfl⟩ | ⟨rfl, h0, h1_, rfl⟩)
      · exact H B_z th b_z _ _ hw0 hq hd_z (by omega)
      · rw [ev_z] at h1_
        exact wv_366 hw0 hb h hcc p0 p1 h0 b1 w0 w1 hq hd_z (by omega) (fun C_z th' w8 w9 hC hQ_z hD => by rw [show b_z + -1 = b_z - 1 by omega]; exact ih_z (b_z - 1) th' w8 w9 C_z (by omega) (by omega) (by omega) hC hQ_z hD)
      · rw [ev_z] at h1_
        rw [show b_z + -1 = b_z - 1 by omega]
        exact ih_z (b_z - 1) th _ _ B_z (by omega) (by omega) (by omega) hw0 hq (hd_z.skip (fun w' e_z y2 _ _ _ => absurd h1_ (mfl_bit hb (by omega) b1 y2)))
      · rw [ev_z] at h1_
        exact wv_366 hw0 hb h hcc p0 p1 h0 b1 w0 w1 hq hd_z (by omega) (fun C_z th' w8 w9 hC hQ_z hD => by rw [show b_z + -1 = b_z - 1 by omega]; exact ih_z (b_z - 1) th' w8 w9 C_z (by omega) (by omega) (by omega) hC hQ_z hD)
    · refine ⟨fun h0 => ?_, fun h0 => ?_⟩
      · exact Or.inl (⟨rfl, h0, rfl⟩)
      · refine ⟨oM_0 (by omega) km0 52 rfl, ?_⟩
        refine ⟨aM_35 (r := B_z 0 52) (by rw [c52_z]; omega) (by rw [c52_z]; exact kn35) (by omega) (by omega), ?_⟩
        have e1 : B_z (B_z 0 52) here = B_z 35 here := by rw [c52_z]
        refine ⟨fun h1_ => ?_, fun h1_ => ?_, fun h1_ => ?_⟩
        · refine ⟨fun _ => ?_, fun hh => absurd hh (by decide)⟩
          exact Or.inr (Or.inl (⟨rfl, h0, h1_, rfl⟩))
        · refine ⟨fun hh => absurd hh (by decide), fun _ => ?_⟩
          refine ⟨⟨by omega, by omega⟩, ?_⟩
          exact Or.inr (Or.inr (Or.inl (⟨rfl, h0, h1_, rfl⟩)))
        · refine ⟨fun _ => ?_, fun hh => absurd hh (by decide)⟩
          exact Or.inr (Or.inr (Or.inr (⟨rfl, h0, h1_, rfl⟩)))
set_option maxRecDepth 4000 in
theorem wv_323 {A : pm_A} {n m bg cc cm vs : Int} {bm bf V fa : Int → Int} (hA : RI A) (hfin : ∀ (l : List Int) (C_z : pm_A), wyM n bm bf m (V 0) l vs → C_z 0 55 = (l.length : Int) → (∀ (j_z : Nat) (b_z : Int), l[j_z]? = some b_z → C_z 37 (j_z : Int) = nam (bf b_z)) → wvQ A (some (0, (l.length : Int)), C_z)) (hb : bmS n bm bf m) (m0 : 0 ≤ m) (h : bfsI n bm bf m V fa cm cc 0) (hcc : cm ≤ cc) : ∀ (k_z : Nat) (here_z wm : Int) (w6_z w7_z w8 w9 : pm_V) (B_z : pm_A) (pre_z : List Int), (fa here_z).toNat < k_z → 0 ≤ here_z → here_z < cm → 0 ≤ wm → wm + fa here_z ≤ 14 → wyS A B_z n bm bf V fa cm wm → (pre_z.length : Int) = wm → (∀ l' : List Int, wyM n bm bf m (V 0) l' (V here_z) → wyM n bm bf m (V 0) (pre_z ++ l') vs) → (∀ (j_z : Nat) (b_z : Int), pre_z[j_z]? = some b_z → B_z 37 (j_z : Int) = nam (bf b_z)) → Tm pmt (an_sh wM) o_X10_way 323 ([(2, 0), (0, n), (0, m), (1, bg), (9, 0), (0, here_z), w6_z, w7_z, w8, w9], [], B_z)  (wvP A) := by
  have hm_z := hb.1
  have hl := h.1.1
  intro k_z
  induction k_z with
  | zero => intro here_z wm w6_z w7_z w8 w9 B_z pre_z h; omega
  | succ k_z ih_z =>
    intro here_z wm w6_z w7_z w8 w9 B_z pre_z hk p0_z p1_z w0_z w1_z hw hpl hpre hg
    have hXX := h.x
    have hDS : ∀ e_z : Int, 0 ≤ e_z → e_z < cm → dsM n bm bf m (V 0) (V e_z) (fa e_z).toNat := fun e_z e0_z e1_z => ls_ds (K := fa e_z) hb hXX rfl (fun u_z _ u1_z _ => by omega) e0_z e1_z (Int.le_refl _)
    have hfh := h.1.2.2.2.2.2.2 here_z p0_z p1_z
    have hw0 := hw
    obtain ⟨h1, h2, h3, h4, h5, h6, h7, h8, h9, h10⟩ := hw
    have c53 := pM_53 h1
    have ev_z : B_z (B_z 0 53) here_z = fa here_z := by rw [c53, h6]
    have h454 : 0 < fa here_z → ∀ (C_z : pm_A) (th b_z : Int) (w8 w9 : pm_V), wyS A C_z n bm bf V fa cm wm → (∀ j_z : Int, ¬ j_z = wm → C_z 37 j_z = B_z 37 j_z) → dnJ n bm bf m V fa cm here_z th b_z (C_z 37 wm) → b_z = -1 → Tm pmt (an_sh wM) o_X10_way 454 ([(2, 0), (0, n), (0, m), (1, bg), (9, 0), (0, here_z), (0, th), (0, b_z), w8, w9], [], C_z)  (wvP A) := fun hf C_z th b_z w8 w9 hC hQ_z hD hb0 => by
      obtain ⟨bs_z, ⟨⟨s0_z, s1_z⟩, s2_z, s3_z⟩, ⟨t0_z, t1_z, t2_z⟩, s4_z⟩ := hD.end hb h.1 hb0 p0_z p1_z hf
      obtain ⟨h1, h2, h3, h4, h5, h6, h7, h8, h9, h10⟩ := hC
      refine wq_ok srt_Mway (fr := []) (cuts := [323]) (J := fun pc st_z => (pc = 323 ∧ st_z = ([(2, 0), (0, n), (0, m), (1, bg), (9, 0), (0, th), (0, th), (0, b_z), w8, w9], [], pm_upd C_z 0 55 ((C_z 0 55) + 1)))) ?_ 14 454 _ ?_
      · rintro pc st_z (⟨rfl, rfl⟩)
        rw [h8]
        refine ih_z th (wm + 1) _ _ _ _ _ (pre_z ++ [bs_z]) (by omega) t0_z t1_z (by omega) (by omega) ⟨uM_0_55 h1 (by omega) (by omega), fun r_z j_z a1_z a2 => by rw [upd_o (by omega)]; exact h2 r_z j_z a1_z a2, by rw [← h3]; funext j_z; exact upd_o (by omega), by rw [← h4]; funext j_z; exact upd_o (by omega), by rw [← h5]; funext j_z; exact upd_o (by omega), by rw [← h6]; funext j_z; exact upd_o (by omega), by rw [upd_o (by omega)]; exact h7, by rw [upd_at], fun i_z i0_z i1_z => by rw [upd_o (by omega)]; exact h9 i_z i0_z i1_z, h10⟩ (by rw [List.length_append]; show ((pre_z.length + 1 : Nat) : Int) = _; omega) (fun l' hl' => ?_) (fun j_z b_z hj => ?_)
        · rw [List.append_assoc]
          refine hpre (bs_z :: l') ?_
          have d1_z := hDS here_z p0_z p1_z
          have d2_z := hDS th t0_z t1_z
          have hll := dsM_u (wyM_d l' _ hl') d2_z
          have hlh : (fa here_z).toNat = l'.length + 1 := by omega
          refine ⟨by rw [← hlh]; exact d1_z, ⟨s0_z, s1_z⟩, V th, s2_z, by rw [hll]; exact d2_z, fun b' w' b0' b1' hm' hd' => ?_, hl'⟩
          obtain ⟨e_z, ⟨e0_z, e1_z⟩, e2_z, e3_z⟩ := ls_of (K := (l'.length : Int) + 1) hb hXX rfl (fun u_z _ u1_z _ => by omega) (by omega) hd'
          exact s4_z b' w' e_z b0' b1' hm' e0_z e1_z e2_z (by omega)
        · by_cases ej : j_z < pre_z.length
          · rw [List.getElem?_append_left (by omega)] at hj
            rw [upd_o (by omega), hQ_z _ (by omega)]
            exact hg j_z b_z hj
          · have hjl := (List.getElem?_eq_some_iff.mp hj).1
            rw [List.length_append] at hjl
            have hjl : j_z < pre_z.length + 1 := hjl
            have ej2 : j_z = pre_z.length := by omega
            rw [ej2, List.getElem?_append_right (by omega), Nat.sub_self] at hj
            have eb : bs_z = b_z := Option.some.inj hj
            rw [ej2, hpl, upd_o (by omega), s3_z, eb]
      · refine ⟨oM_0 (by omega) km0 55 rfl, ?_⟩
        refine ⟨⟨by omega, by omega⟩, ?_⟩
        refine ⟨oM_0 (by omega) km0 55 rfl, ?_⟩
        exact ⟨rfl, rfl⟩
    refine wq_ok srt_Mway (fr := []) (cuts := [341, 474]) (J := fun pc st_z => (pc = 474 ∧ ((B_z (B_z 0 53) here_z) ≤ 0) ∧ st_z = ([(2, 0), (0, n), (0, m), (1, bg), (9, 0), (0, here_z), (0, 0), w7_z, w8, w9], [], B_z)) ∨ (pc = 341 ∧ (0 < (B_z (B_z 0 53) here_z)) ∧ st_z = ([(2, 0), (0, n), (0, m), (1, bg), (9, 0), (0, here_z), (0, (-1)), (0, m - 1), w8, w9], [], B_z))) ?_ 16 323 _ ?_
    · rintro pc st_z (⟨rfl, h0, rfl⟩ | ⟨rfl, h0, rfl⟩)
      · rw [ev_z] at h0
        have hz0 : (fa here_z).toNat = 0 := by omega
        have d0_z := hDS here_z p0_z p1_z
        rw [hz0] at d0_z
        have hl0 := hpre [] d0_z
        rw [List.append_nil] at hl0
        refine wv_474 (wf := B_z 37) hA (fun C_z c55_z cq_z => ?_) _ 0 _ _ _ B_z (Nat.lt_succ_self _) (by omega) (by omega) hw0 (fun j_z j0 j1 => by omega) (fun _ => rfl)
        have hh := hfin pre_z C_z hl0 (by rw [c55_z, hpl]) (fun j_z b_z hj => by rw [cq_z]; exact hg j_z b_z hj)
        rw [hpl] at hh
        exact hh
      · rw [ev_z] at h0
        exact wv_341 (wf := B_z 37) hb h hcc p0_z p1_z w0_z (by omega) (h454 h0) _ (m - 1) (-1) _ _ B_z (Nat.lt_succ_self _) (by omega) (by omega) hw0 (fun _ _ => rfl) (Or.inl ⟨rfl, fun b' w_z e_z y0 y1 => by omega⟩)
    · refine ⟨oM_0 (by omega) km0 53 rfl, ?_⟩
      refine ⟨aM_36 (r := B_z 0 53) (by rw [c53]; omega) (by rw [c53]; exact kn36) (by omega) (by omega), ?_⟩
      have e1 : B_z (B_z 0 53) here_z = B_z 36 here_z := by rw [c53]
      refine ⟨fun h0 => ?_, fun h0 => ?_⟩
      · exact Or.inl (⟨rfl, h0, rfl⟩)
      · refine ⟨⟨by omega, by omega⟩, ?_⟩
        exact Or.inr (⟨rfl, h0, rfl⟩)
theorem wv_311 {A B : pm_A} {n m cc cm wm : Int} {bm bf V fa G : Int → Int} (hA : RI A) (hfin : ∀ (l : List Int) (C_z : pm_A), wyM n bm bf m (V 0) l (bitsV bm G 100) → C_z 0 55 = (l.length : Int) → (∀ (j_z : Nat) (b_z : Int), l[j_z]? = some b_z → C_z 37 (j_z : Int) = nam (bf b_z)) → wvQ A (some (0, (l.length : Int)), C_z)) (hb : bmS n bm bf m) (m0 : 0 ≤ m) (h : bfsI n bm bf m V fa cm cc 0) (hcc : cm ≤ cc) (hw : wyS A B n bm bf V fa cm wm) (hF : cutS n (fcs A 1)) (hG : cutS n G) {w6 w7 w8 w9 : pm_V} : Tm pmt (an_sh wM) o_X10_way 311 ([(2, 0), (0, n), (0, m), (1, bitsV bm G 100), (9, 0), (0, cc), w6, w7, w8, w9], [], B)  (wvP A) := by
  obtain ⟨e_z, e0_z, e1, e2, e3⟩ := bfs_end hb h hcc hF hG hw.2.2.2.2.2.2.2.2.2.2.2
  obtain ⟨h1, h2, h3, h4, h5, h6, h7, h8, h9, h10⟩ := hw
  have h316 : ∀ C_z, C_z = pm_upd B 0 55 0 → Tm pmt (an_sh wM) o_X10_way 316 ([(2, 0), (0, n), (0, m), (1, bitsV bm G 100), (9, 0), (0, cc), w6, w7, w8, w9], [], C_z)  (wvP A) := fun C_z hC => by
    have g_z : gH wM C_z := by rw [hC]; exact uM_0_55 h1 (by omega) (by omega)
    have hw : wyS A C_z n bm bf V fa cm 0 := ⟨g_z, fun r_z j_z a1_z a2 => by rw [hC, upd_o (by omega)]; exact h2 r_z j_z a1_z a2, by rw [← h3, hC]; funext j_z; exact upd_o (by omega), by rw [← h4, hC]; funext j_z; exact upd_o (by omega), by rw [← h5, hC]; funext j_z; exact upd_o (by omega), by rw [← h6, hC]; funext j_z; exact upd_o (by omega), by rw [hC, upd_o (by omega)]; exact h7, by rw [hC, upd_at], fun i_z i0_z i1_z => by rw [hC, upd_o (by omega)]; exact h9 i_z i0_z i1_z, h10⟩
    obtain ⟨k1_z, k2_z, k3_z, k4_z, k5_z, k6_z, k7_z, k8_z, k9, k10⟩ := hw
    have hw : wyS A C_z n bm bf V fa cm 0 := ⟨k1_z, k2_z, k3_z, k4_z, k5_z, k6_z, k7_z, k8_z, k9, k10⟩
    refine wq_ok srt_Mway (fr := []) (cuts := [321]) (J := fun pc st_z => (pc = 321 ∧ ∃ x_z, ((x_z = -1 ∧ ∀ d_z : Int, 0 ≤ d_z → d_z < C_z 0 54 → ¬ C_z 35 d_z = bitsV bm G 100) ∨ (0 ≤ x_z ∧ x_z < C_z 0 54 ∧ C_z 35 x_z = bitsV bm G 100)) ∧ st_z = ([(2, 0), (0, n), (0, m), (1, bitsV bm G 100), (9, 0), (0, cc), w6, w7, w8, w9], [(0, x_z)], C_z))) ?_ 7 316 _ ?_
    · rintro pc st_z (⟨rfl, x_z, hx, rfl⟩)
      refine wq_ok srt_Mway (fr := []) (cuts := [323]) (J := fun pc st_z => (pc = 323 ∧ st_z = ([(2, 0), (0, n), (0, m), (1, bitsV bm G 100), (9, 0), (0, x_z), w6, w7, w8, w9], [], C_z))) ?_ 6 321 _ ?_
      · rintro pc st_z (⟨rfl, rfl⟩)
        have hx2 : x_z = e_z := by
          rcases hx with ⟨_, hx⟩ | ⟨y0, y1, y2⟩
          · exact absurd (by rw [k5_z]; exact e2) (hx e_z e0_z (by omega))
          · exact h.1.at y0 (by omega) e0_z e1 (by rw [e2, ← k5_z]; exact y2)
        subst hx2
        exact wv_323 hA hfin hb m0 h hcc _ x_z 0 _ _ _ _ C_z [] (Nat.lt_succ_self _) e0_z e1 (by omega) (by omega) hw rfl (fun l' hl' => by rw [e2] at hl'; exact hl') (fun j_z b_z hj => by simp at hj)
      · exact ⟨rfl, rfl⟩
    · refine ⟨rM_0 (by omega) km0, ?_⟩
      refine (cuttingOf_ex g_z).imp ?_
      rintro ⟨r1_z, D_z⟩ ⟨p1_z, x_z, p2_z, hx⟩
      simp only at p1_z p2_z
      subst p1_z
      subst p2_z
      exact ⟨rfl, x_z, hx, rfl⟩
  refine wq_ok srt_Mway (fr := []) (cuts := [316]) (J := fun pc st_z => (pc = 316 ∧ st_z = ([(2, 0), (0, n), (0, m), (1, bitsV bm G 100), (9, 0), (0, cc), w6, w7, w8, w9], [], pm_upd B 0 55 0))) ?_ 8 311 _ ?_
  · rintro pc st_z (⟨rfl, rfl⟩)
    exact h316 _ rfl
  · refine ⟨oM_0 (by omega) km0 55 rfl, ?_⟩
    exact ⟨rfl, rfl⟩
theorem wv_144 {A B : pm_A} {n m i : Int} {bm bf : Int → Int} (hA : RI A) (hB2_z : wbM A) (hO : bmO n bm) (hb : bmS n bm bf m) (m0 : 0 ≤ m) (hB : wyF A B) (e33 : B 33 = bm) (e34 : B 34 = bf) (hs : ∀ i : Int, 0 ≤ i → i < 200 → B 38 i = A 32 i) (h0 : cutS n (fcs A 0)) (h1 : cutS n (fcs A 1)) (a0 : A 31 0 = n) (a1 : A 31 1 = n) : Tm pmt (an_sh wM) o_X10_way 144 ([(2, 0), (0, n), (0, m), (0, i), (9, 0), (9, 0), (9, 0), (9, 0), (9, 0), (9, 0)], [], B)  (wvP A) := by
  have ef0 : fcs B 0 = fcs A 0 := funext fun f_z => hB.2 32 _ (by omega) (by omega)
  have hG : bitsV (B 33) (fcs B 0) 100 = bitsV bm (fcs A 0) 100 := by rw [e33, ef0]
  have hvb := i64_b (bitsV_i64 bm (fcs A 1) 100)
  have h155 : ∀ C_z, C_z = pm_upd B 0 54 1 → Tm pmt (an_sh wM) o_X10_way 155 ([(2, 0), (0, n), (0, m), (1, bitsV bm (fcs A 0) 100), (9, 0), (9, 0), (9, 0), (9, 0), (9, 0), (9, 0)], [], C_z)  (wvP A) := fun C_z hC => by
    have g_z : gH wM C_z := by rw [hC]; exact uM_0_54 hB.1 (by omega) (by omega)
    have c52_z := pM_52 g_z
    have ef1 : fcs C_z 1 = fcs A 1 := funext fun f_z => by
      show C_z 32 _ = A 32 _
      rw [hC, upd_o (by omega)]; exact hB.2 32 _ (by omega) (by omega)
    have f33 : C_z 33 = bm := by rw [← e33, hC]; funext j_z; exact upd_o (by omega)
    have h166 : ∀ D_z, D_z = pm_upd C_z 35 0 (bitsV bm (fcs A 1) 100) → Tm pmt (an_sh wM) o_X10_way 166 ([(2, 0), (0, n), (0, m), (1, bitsV bm (fcs A 0) 100), (9, 0), (9, 0), (9, 0), (9, 0), (9, 0), (9, 0)], [], D_z)  (wvP A) := fun D_z hD => by
      have gD : gH wM D_z := by rw [hD]; exact uM_35 g_z kn35 hvb.1 hvb.2
      have c53 := pM_53 gD
      refine wq_ok srt_Mway (fr := []) (cuts := [176]) (J := fun pc st_z => (pc = 176 ∧ st_z = ([(2, 0), (0, n), (0, m), (1, bitsV bm (fcs A 0) 100), (9, 0), (0, 0), (9, 0), (9, 0), (9, 0), (9, 0)], [], pm_upd D_z (D_z 0 53) 0 0))) ?_ 12 166 _ ?_
      · rintro pc st_z (⟨rfl, rfl⟩)
        rw [c53]
        have ho : ∀ r_z j_z : Int, ¬ (r_z = 0 ∧ j_z = 54) → ¬ (r_z = 36 ∧ j_z = 0) → ¬ (r_z = 35 ∧ j_z = 0) → pm_upd D_z 36 0 0 r_z j_z = B r_z j_z := fun r_z j_z b1 b2 b3 => by rw [upd_o (by omega), hD, upd_o (by omega), hC, upd_o (by omega)]
        have v0_z : pm_upd D_z 36 0 0 35 0 = bitsV bm (fcs A 1) 100 := by rw [upd_o (by omega), hD, upd_at]
        refine wv_176 hb m0 (bm := bm) (bf := bf) (wm := B 0 55) (fun C_z V fa cm c_z w6_z w7_z w8 w9 hw hI hcm => ?_) _ 0 _ _ _ _ _ (pm_upd D_z 36 0 0 35) (pm_upd D_z 36 0 0 36) 1 (Nat.lt_succ_self _) (by omega) (by omega) ⟨uM_36 gD kn36 (by omega) (by omega), fun r_z j_z b1 b2 => by rw [ho r_z j_z (by omega) (by omega) (by omega)]; exact hB.2 r_z j_z (by omega) b2, by rw [← e33]; funext j_z; exact ho 33 j_z (by omega) (by omega) (by omega), by rw [← e34]; funext j_z; exact ho 34 j_z (by omega) (by omega) (by omega), rfl, rfl, by rw [upd_o (by omega), hD, upd_o (by omega), hC, upd_at], by rw [ho 0 55 (by omega) (by omega) (by omega)], fun i i0_z i1_z => by rw [ho 38 i (by omega) (by omega) (by omega)]; exact hs i i0_z i1_z, a0, a1, v0_z⟩ (bfs_init h1 v0_z (by rw [upd_at]))
        have hV0 := hw.2.2.2.2.2.2.2.2.2.2.2
        refine wv_311 hA (fun l C_z hl c55_z cq_z => Or.inr ⟨hB2_z, bm, bf, m, by rw [a0]; exact hb, by rw [a0]; exact hO, l, ?_, rfl, c55_z, cq_z⟩) hb m0 hI hcm hw h1 h0
        rw [hV0] at hl
        rw [a0]
        exact hl
      · refine ⟨oM_0 (by omega) km0 53 rfl, ?_⟩
        refine ⟨tM_36 (r := D_z 0 53) (by rw [c53]; omega) (by rw [c53]; exact kn36) (by omega) (by omega) rfl, ?_⟩
        exact ⟨rfl, rfl⟩
    refine wq_ok srt_Mway (fr := []) (cuts := [165]) (J := fun pc st_z => (pc = 165 ∧ st_z = ([(2, 0), (0, n), (0, m), (1, bitsV bm (fcs A 0) 100), (9, 0), (9, 0), (9, 0), (9, 0), (9, 0), (9, 0)], [(1, bitsV (C_z 33) (fcs C_z 1) 100), (0, 0), (2, C_z 0 52)], C_z))) ?_ 10 155 _ ?_
    · rintro pc st_z (⟨rfl, rfl⟩)
      rw [f33, ef1]
      refine wq_ok srt_Mway (fr := []) (cuts := [166]) (J := fun pc st_z => (pc = 166 ∧ st_z = ([(2, 0), (0, n), (0, m), (1, bitsV bm (fcs A 0) 100), (9, 0), (9, 0), (9, 0), (9, 0), (9, 0), (9, 0)], [], pm_upd C_z (C_z 0 52) 0 (bitsV bm (fcs A 1) 100)))) ?_ 6 165 _ ?_
      · rintro pc st_z (⟨rfl, rfl⟩)
        rw [c52_z]
        exact h166 _ rfl
      · refine ⟨tM_35 (r := C_z 0 52) (by rw [c52_z]; omega) (by rw [c52_z]; exact kn35) (by omega) (by omega) rfl, ?_⟩
        exact ⟨rfl, rfl⟩
    · refine ⟨oM_0 (by omega) km0 52 rfl, ?_⟩
      refine ⟨rM_0 (by omega) km0, ?_⟩
      refine (bits_ex (sl := 1) g_z (by omega) (by omega)).imp ?_
      rintro r_z rfl
      exact ⟨rfl, rfl⟩
  refine wq_ok srt_Mway (fr := []) (cuts := [149]) (J := fun pc st_z => (pc = 149 ∧ st_z = ([(2, 0), (0, n), (0, m), (0, i), (9, 0), (9, 0), (9, 0), (9, 0), (9, 0), (9, 0)], [(1, bitsV (B 33) (fcs B 0) 100)], B))) ?_ 7 144 _ ?_
  · rintro pc st_z (⟨rfl, rfl⟩)
    rw [hG]
    refine wq_ok srt_Mway (fr := []) (cuts := [155]) (J := fun pc st_z => (pc = 155 ∧ st_z = ([(2, 0), (0, n), (0, m), (1, bitsV bm (fcs A 0) 100), (9, 0), (9, 0), (9, 0), (9, 0), (9, 0), (9, 0)], [], pm_upd B 0 54 1))) ?_ 9 149 _ ?_
    · rintro pc st_z (⟨rfl, rfl⟩)
      exact h155 _ rfl
    · refine ⟨oM_0 (by omega) km0 54 rfl, ?_⟩
      exact ⟨rfl, rfl⟩
  · refine ⟨rM_0 (by omega) km0, ?_⟩
    refine (bits_ex (sl := 0) hB.1 (by omega) (by omega)).imp ?_
    rintro r_z rfl
    exact ⟨rfl, rfl⟩
theorem mwayv_ex {A : pm_A} (h : RI A) : Cl pmt (an_sh wM) 202 [(2, 0)] A (wvP A) := by
  have c48_z := pM_48 h.g
  have b0 := eM_31 h.g (r := 31) (by omega) kn31 (j := 0) (by omega) (by omega)
  have h33 : cntF (fcs A 0) 100 = A 31 0 - 3 → cntF (fcs A 1) 100 = A 31 1 - 3 → A 31 0 = A 31 1 → Tm pmt (an_sh wM) o_X10_way 33 ([(2, 0), (9, 0), (9, 0), (9, 0), (9, 0), (9, 0), (9, 0), (9, 0), (9, 0), (9, 0)], [], A)  (wvP A) := fun k0_z k1_z k2_z => by
    have q0 : cutS (A 31 0) (fcs A 0) := ⟨h.2.2 0 (Or.inl rfl), k0_z⟩
    have q1_z : cutS (A 31 0) (fcs A 1) := by rw [k2_z]; exact ⟨h.2.2 1 (Or.inr rfl), k1_z⟩
    refine wq_ok srt_Mway (fr := []) (cuts := [44]) (J := fun pc st_z => (pc = 44 ∧ st_z = ([(2, 0), (0, A (A 0 48) 0), (0, 0), (0, 0), (9, 0), (9, 0), (9, 0), (9, 0), (9, 0), (9, 0)], [], A))) ?_ 14 33 _ ?_
    · rintro pc st_z (⟨rfl, rfl⟩)
      rw [c48_z]
      refine wv_44 b0.1 b0.2 (fun C_z m_z hC hb_z hO m0_z => ?_) _ 0 0 A (Nat.lt_succ_self _) (by omega) (by omega) ⟨h.g, fun _ _ _ _ => rfl⟩ ⟨⟨rfl, fun g_z g0 g1 => by omega, fun b_z b0 b1 => by omega⟩, fun g_z g' g0 g1 g2 => by omega⟩
      refine wq_ok srt_Mway (fr := []) (cuts := [119]) (J := fun pc st_z => (pc = 119 ∧ st_z = ([(2, 0), (0, A 31 0), (0, m_z), (0, 0), (9, 0), (9, 0), (9, 0), (9, 0), (9, 0), (9, 0)], [], C_z))) ?_ 7 117 _ ?_
      · rintro pc st_z (⟨rfl, rfl⟩)
        exact wv_119 (fun D_z i_z hD f33 f34 hs => wv_144 h ⟨k0_z, k1_z, k2_z⟩ hO hb_z m0_z hD f33 f34 hs q0 q1_z rfl k2_z.symm) _ 0 C_z (Nat.lt_succ_self _) (by omega) (by omega) hC rfl rfl (fun j_z j0 j1 => by omega)
      · exact ⟨rfl, rfl⟩
    · refine ⟨oM_0 (by omega) km0 48 rfl, ?_⟩
      refine ⟨aM_31 (r := A 0 48) (by rw [c48_z]; omega) (by rw [c48_z]; exact kn31) (by omega) (by omega), ?_⟩
      have e1 : A (A 0 48) 0 = A 31 0 := by rw [c48_z]
      exact ⟨rfl, rfl⟩
  refine Cl.of (Nat.le_of_ble_eq_true rfl) ?_
  refine wq_ok (full := o_X10_way) srt_Mway (fr := []) (cuts := [5]) (J := fun pc st_z => (pc = 5 ∧ ∃ x_z : Int, ((x_z = 1 ∧ (cntF (fcs A 0) 100 = A 31 0 - 3)) ∨ (x_z = 0 ∧ ¬ (cntF (fcs A 0) 100 = A 31 0 - 3))) ∧ st_z = ([(2, 0), (9, 0), (9, 0), (9, 0), (9, 0), (9, 0), (9, 0), (9, 0), (9, 0), (9, 0)], [(0, x_z)], A))) ?_ 7 0 _ ?_
  · rintro pc st_z (⟨rfl, x_z, hx, rfl⟩)
    refine wq_ok srt_Mway (fr := []) (cuts := [13]) (J := fun pc st_z => (pc = 13 ∧ (¬ x_z = 0) ∧ ∃ y_z : Int, ((y_z = 1 ∧ (cntF (fcs A 1) 100 = A 31 1 - 3)) ∨ (y_z = 0 ∧ ¬ (cntF (fcs A 1) 100 = A 31 1 - 3))) ∧ st_z = ([(2, 0), (9, 0), (9, 0), (9, 0), (9, 0), (9, 0), (9, 0), (9, 0), (9, 0), (9, 0)], [(0, y_z)], A))) ?_ 8 5 _ ?_
    · rintro pc st_z (⟨rfl, h0, y_z, hy, rfl⟩)
      refine wq_ok srt_Mway (fr := []) (cuts := [33]) (J := fun pc st_z => (pc = 33 ∧ (¬ y_z = 0) ∧ ((A (A 0 48) 0) = (A (A 0 48) 1)) ∧ st_z = ([(2, 0), (9, 0), (9, 0), (9, 0), (9, 0), (9, 0), (9, 0), (9, 0), (9, 0), (9, 0)], [], A))) ?_ 16 13 _ ?_
      · rintro pc st_z (⟨rfl, h0, h1, rfl⟩)
        rw [c48_z] at h1
        refine h33 ?_ ?_ h1
        · rcases hx with ⟨_, e_z⟩ | ⟨e_z, _⟩
          · exact e_z
          · omega
        · rcases hy with ⟨_, e_z⟩ | ⟨e_z, _⟩
          · exact e_z
          · omega
      · refine ⟨fun h0 => ?_, fun h0 => ?_⟩
        · exact ⟨rfl, ⟨⟨_, rfl⟩, h⟩, fun _ => rfl, fun _ _ _ => rfl, Or.inl ⟨fun q_z => by rcases hy with ⟨e_z, _⟩ | ⟨_, e_z⟩; omega; exact e_z q_z.2.1, rfl⟩⟩
        · refine ⟨oM_0 (by omega) km0 48 rfl, ?_⟩
          refine ⟨aM_31 (r := A 0 48) (by rw [c48_z]; omega) (by rw [c48_z]; exact kn31) (by omega) (by omega), ?_⟩
          have e1 : A (A 0 48) 0 = A 31 0 := by rw [c48_z]
          refine ⟨oM_0 (by omega) km0 48 rfl, ?_⟩
          refine ⟨aM_31 (r := A 0 48) (by rw [c48_z]; omega) (by rw [c48_z]; exact kn31) (by omega) (by omega), ?_⟩
          have e2 : A (A 0 48) 1 = A 31 1 := by rw [c48_z]
          refine ⟨fun h1 => ?_, fun h1 => ?_⟩
          · exact ⟨rfl, h0, h1, rfl⟩
          · exact ⟨rfl, ⟨⟨_, rfl⟩, h⟩, fun _ => rfl, fun _ _ _ => rfl, Or.inl ⟨fun q_z => by rw [c48_z] at h1; exact h1 q_z.2.2, rfl⟩⟩
    · refine ⟨fun h0 => ?_, fun h0 => ?_⟩
      · exact ⟨rfl, ⟨⟨_, rfl⟩, h⟩, fun _ => rfl, fun _ _ _ => rfl, Or.inl ⟨fun q_z => by rcases hx with ⟨e_z, _⟩ | ⟨_, e_z⟩; omega; exact e_z q_z.1, rfl⟩⟩
      · refine ⟨rM_0 (by omega) km0, ?_⟩
        refine (isCutting_ex h.g (sl := 1) (by omega) (by omega)).imp ?_
        rintro ⟨r1_z, C_z⟩ ⟨q1_z, y_z, q2_z, hy⟩
        simp only at q1_z q2_z
        subst q1_z
        subst q2_z
        exact ⟨rfl, h0, y_z, hy, rfl⟩
  · refine ⟨rM_0 (by omega) km0, ?_⟩
    refine (isCutting_ex h.g (sl := 0) (by omega) (by omega)).imp ?_
    rintro ⟨r1_z, C_z⟩ ⟨q1_z, x_z, q2_z, hx⟩
    simp only at q1_z q2_z
    subst q1_z
    subst q2_z
    exact ⟨rfl, x_z, hx, rfl⟩
