/-! what a call of the law needs: every method on both sides; the answers that the arguments alone decide -/
theorem Cl.and {PT : pm_T} {sh : pm_Sh} {mid : Nat} {a : List pm_V} {A : pm_A} {Q Q' : pm_R → Prop} (h : Cl PT sh mid a A Q) (h' : Cl PT sh mid a A Q') : Cl PT sh mid a A (fun r => Q r ∧ Q' r) := by
  obtain ⟨n, r, h1, h2⟩ := h
  obtain ⟨n', r', h1', h2'⟩ := h'
  have e1 := pm_call_mono (Nat.le_max_left n n') h1
  have e2 := pm_call_mono (Nat.le_max_right n n') h1'
  rw [e1] at e2
  cases e2
  exact ⟨_, r, e1, h2, h2'⟩
theorem gR_some {w : an_W} {k : Nat} {lo hi : Int} {r : Option pm_V} (hk : k = 0 ∨ k = 1) (h : gR w (some (k, lo, hi)) r) : ∃ z, r = some (k, z) := by
  match r, h with
  | some (k', z), ⟨h, _⟩ =>
    rcases hk with rfl | rfl
    · have e := h.1; simp only at e; subst e; exact ⟨z, rfl⟩
    · have e := h.1; simp only at e; subst e; exact ⟨z, rfl⟩
theorem st_gct {mid : Nat} {q : an_Q} (hq : gCt wX pmt mid q) {a : List pm_V} {A : pm_A} (ha : gA wX q.1 a) (h : St A) (hm : q.2.2.all (fun x => !al_C.contains x) = true) : Cl pmt (an_sh wX) mid a A (fun r => gR wX q.2.1 r.1 ∧ St r.2) :=
  Cl.gct hq ha h.1 (fun r h1 h2 h3 => ⟨h1, h.keep h2 h3 hm⟩)
def oX (k : Nat) (r : pm_R) : Prop := (∃ z, r.1 = some (k, z)) ∧ St r.2
def oM (k : Nat) (r : pm_R) : Prop := (∃ z, r.1 = some (k, z)) ∧ RI r.2
theorem ox_table {A : pm_A} {a1 a2 : Int} (h : St A) (h1 : r32 a1) (h2 : r32 a2) : Cl pmt (an_sh wX) 111 [(2, 0), (0, a1), (0, a2)] A (oX 0) := (st_gct q_X9_table_0 (A := A) (a := [(2, 0), (0, a1), (0, a2)]) ⟨gv_ref (by omega) kk0, ⟨rfl, h1.1, h1.2⟩, ⟨rfl, h2.1, h2.2⟩, trivial⟩ h rfl).imp (fun r q => ⟨gR_some (Or.inl rfl) q.1, q.2⟩)
theorem om_table {A : pm_A} {a1 a2 : Int} (h : RI A) (h1 : r32 a1) (h2 : r32 a2) : Cl pmt (an_sh wM) 187 [(2, 0), (0, a1), (0, a2)] A (oM 0) := (mtable_ct h a1 a2).imp (fun r q => ⟨q.1.elim (fun e => ⟨_, e.1⟩) (fun e => ⟨_, e.1⟩), q.2⟩)
theorem ox_arrows {A : pm_A} {a1 a2 a3 : Int} (h : St A) (h1 : r32 a1) (h2 : r32 a2) (h3 : r32 a3) : Cl pmt (an_sh wX) 84 [(2, 0), (0, a1), (0, a2), (0, a3)] A (oX 0) := (st_gct q_X9_arrows_0 (A := A) (a := [(2, 0), (0, a1), (0, a2), (0, a3)]) ⟨gv_ref (by omega) kk0, ⟨rfl, h1.1, h1.2⟩, ⟨rfl, h2.1, h2.2⟩, ⟨rfl, h3.1, h3.2⟩, trivial⟩ h rfl).imp (fun r q => ⟨gR_some (Or.inl rfl) q.1, q.2⟩)
theorem om_arrows {A : pm_A} {a1 a2 a3 : Int} (h : RI A) (h1 : r32 a1) (h2 : r32 a2) (h3 : r32 a3) : Cl pmt (an_sh wM) 126 [(2, 0), (0, a1), (0, a2), (0, a3)] A (oM 0) := marrows_ct h a1 a2 a3
theorem ox_begin {A : pm_A} (h : St A) : Cl pmt (an_sh wX) 87 [(2, 0)] A (oX 0) := (st_gct q_X9_begin_0 (A := A) (a := [(2, 0)]) ⟨gv_ref (by omega) kk0, trivial⟩ h rfl).imp (fun r q => ⟨gR_some (Or.inl rfl) q.1, q.2⟩)
theorem om_begin {A : pm_A} (h : RI A) : Cl pmt (an_sh wM) 129 [(2, 0)] A (oM 0) := mbegin_ct h
theorem ox_size {A : pm_A} {a1 : Int} (h : St A) (h1 : r32 a1) : Cl pmt (an_sh wX) 108 [(2, 0), (0, a1)] A (oX 0) := (st_gct q_X9_size_0 (A := A) (a := [(2, 0), (0, a1)]) ⟨gv_ref (by omega) kk0, ⟨rfl, h1.1, h1.2⟩, trivial⟩ h rfl).imp (fun r q => ⟨gR_some (Or.inl rfl) q.1, q.2⟩)
theorem om_size {A : pm_A} {a1 : Int} (h : RI A) (h1 : r32 a1) : Cl pmt (an_sh wM) 184 [(2, 0), (0, a1)] A (oM 0) := (ri_gct q_X10_size_0 (A := A) (a := [(2, 0), (0, a1)]) ⟨gv_ref (by omega) km0, ⟨rfl, h1.1, h1.2⟩, trivial⟩ h rfl).imp (fun r q => ⟨gR_some (Or.inl rfl) q.1, q.2⟩)
theorem ox_turn {A : pm_A} {a1 : Int} (h : St A) (h1 : r32 a1) : Cl pmt (an_sh wX) 115 [(2, 0), (0, a1)] A (oX 0) := (turn_ct h h1).imp (fun r ⟨x, q1, _, q2⟩ => ⟨⟨x, q1⟩, q2⟩)
theorem om_turn {A : pm_A} {a1 : Int} (h : RI A) (h1 : r32 a1) : Cl pmt (an_sh wM) 198 [(2, 0), (0, a1)] A (oM 0) := mturn_ct h a1
theorem ox_back {A : pm_A} (h : St A) : Cl pmt (an_sh wX) 86 [(2, 0)] A (oX 0) := (back_ct h).imp (fun r ⟨x, q1, _, q2⟩ => ⟨⟨x, q1⟩, q2⟩)
theorem om_back {A : pm_A} (h : RI A) : Cl pmt (an_sh wM) 128 [(2, 0)] A (oM 0) := mback_ct h
theorem ox_b {A : pm_A} {a1 a2 : Int} (h : St A) (h1 : r32 a1) (h2 : r32 a2) : Cl pmt (an_sh wX) 85 [(2, 0), (0, a1), (0, a2)] A (oX 0) := (st_gct q_X9_b_0 (A := A) (a := [(2, 0), (0, a1), (0, a2)]) ⟨gv_ref (by omega) kk0, ⟨rfl, h1.1, h1.2⟩, ⟨rfl, h2.1, h2.2⟩, trivial⟩ h rfl).imp (fun r q => ⟨gR_some (Or.inl rfl) q.1, q.2⟩)
theorem om_b {A : pm_A} {a1 a2 : Int} (h : RI A) (h1 : r32 a1) (h2 : r32 a2) : Cl pmt (an_sh wM) 127 [(2, 0), (0, a1), (0, a2)] A (oM 0) := (ri_gct q_X10_b_0 (A := A) (a := [(2, 0), (0, a1), (0, a2)]) ⟨gv_ref (by omega) km0, ⟨rfl, h1.1, h1.2⟩, ⟨rfl, h2.1, h2.2⟩, trivial⟩ h rfl).imp (fun r q => ⟨gR_some (Or.inl rfl) q.1, q.2⟩)
theorem ox_terms {A : pm_A} {a1 : Int} (h : St A) (h1 : r32 a1) : Cl pmt (an_sh wX) 114 [(2, 0), (0, a1)] A (oX 0) := (st_gct q_X9_terms_0 (A := A) (a := [(2, 0), (0, a1)]) ⟨gv_ref (by omega) kk0, ⟨rfl, h1.1, h1.2⟩, trivial⟩ h rfl).imp (fun r q => ⟨gR_some (Or.inl rfl) q.1, q.2⟩)
theorem om_terms {A : pm_A} {a1 : Int} (h : RI A) (h1 : r32 a1) : Cl pmt (an_sh wM) 194 [(2, 0), (0, a1)] A (oM 0) := (ri_gct q_X10_terms_0 (A := A) (a := [(2, 0), (0, a1)]) ⟨gv_ref (by omega) km0, ⟨rfl, h1.1, h1.2⟩, trivial⟩ h rfl).imp (fun r q => ⟨gR_some (Or.inl rfl) q.1, q.2⟩)
theorem ox_term {A : pm_A} {a1 a2 a3 : Int} (h : St A) (h1 : r32 a1) (h2 : r32 a2) (h3 : r32 a3) : Cl pmt (an_sh wX) 113 [(2, 0), (0, a1), (0, a2), (0, a3)] A (oX 1) := (st_gct q_X9_term_0 (A := A) (a := [(2, 0), (0, a1), (0, a2), (0, a3)]) ⟨gv_ref (by omega) kk0, ⟨rfl, h1.1, h1.2⟩, ⟨rfl, h2.1, h2.2⟩, ⟨rfl, h3.1, h3.2⟩, trivial⟩ h rfl).imp (fun r q => ⟨gR_some (Or.inr rfl) q.1, q.2⟩)
theorem om_term {A : pm_A} {a1 a2 a3 : Int} (h : RI A) (h1 : r32 a1) (h2 : r32 a2) (h3 : r32 a3) : Cl pmt (an_sh wM) 193 [(2, 0), (0, a1), (0, a2), (0, a3)] A (oM 1) := (ri_gct q_X10_term_0 (A := A) (a := [(2, 0), (0, a1), (0, a2), (0, a3)]) ⟨gv_ref (by omega) km0, ⟨rfl, h1.1, h1.2⟩, ⟨rfl, h2.1, h2.2⟩, ⟨rfl, h3.1, h3.2⟩, trivial⟩ h rfl).imp (fun r q => ⟨gR_some (Or.inr rfl) q.1, q.2⟩)
theorem ox_least {A : pm_A} {a1 a2 : Int} (h : St A) (h1 : r32 a1) (h2 : r32 a2) : Cl pmt (an_sh wX) 100 [(2, 0), (0, a1), (0, a2)] A (oX 0) := (st_gct q_X9_least_0 (A := A) (a := [(2, 0), (0, a1), (0, a2)]) ⟨gv_ref (by omega) kk0, ⟨rfl, h1.1, h1.2⟩, ⟨rfl, h2.1, h2.2⟩, trivial⟩ h rfl).imp (fun r q => ⟨gR_some (Or.inl rfl) q.1, q.2⟩)
theorem om_least {A : pm_A} {a1 a2 : Int} (h : RI A) (h1 : r32 a1) (h2 : r32 a2) : Cl pmt (an_sh wM) 162 [(2, 0), (0, a1), (0, a2)] A (oM 0) := (ri_gct q_X10_least_0 (A := A) (a := [(2, 0), (0, a1), (0, a2)]) ⟨gv_ref (by omega) km0, ⟨rfl, h1.1, h1.2⟩, ⟨rfl, h2.1, h2.2⟩, trivial⟩ h rfl).imp (fun r q => ⟨gR_some (Or.inl rfl) q.1, q.2⟩)
theorem ox_ones {A : pm_A} {a1 : Int} (h : St A) (h1 : r32 a1) : Cl pmt (an_sh wX) 101 [(2, 0), (0, a1)] A (oX 1) := (st_gct q_X9_ones_0 (A := A) (a := [(2, 0), (0, a1)]) ⟨gv_ref (by omega) kk0, ⟨rfl, h1.1, h1.2⟩, trivial⟩ h rfl).imp (fun r q => ⟨gR_some (Or.inr rfl) q.1, q.2⟩)
theorem om_ones {A : pm_A} {a1 : Int} (h : RI A) (h1 : r32 a1) : Cl pmt (an_sh wM) 169 [(2, 0), (0, a1)] A (oM 1) := (ri_gct q_X10_ones_0 (A := A) (a := [(2, 0), (0, a1)]) ⟨gv_ref (by omega) km0, ⟨rfl, h1.1, h1.2⟩, trivial⟩ h rfl).imp (fun r q => ⟨gR_some (Or.inr rfl) q.1, q.2⟩)
theorem ox_keep {A : pm_A} {a1 : Int} (h : St A) (h1 : r32 a1) : Cl pmt (an_sh wX) 99 [(2, 0), (0, a1)] A (oX 0) := (st_gct q_X9_keep_0 (A := A) (a := [(2, 0), (0, a1)]) ⟨gv_ref (by omega) kk0, ⟨rfl, h1.1, h1.2⟩, trivial⟩ h rfl).imp (fun r q => ⟨gR_some (Or.inl rfl) q.1, q.2⟩)
theorem om_keep {A : pm_A} {a1 : Int} (h : RI A) (h1 : r32 a1) : Cl pmt (an_sh wM) 160 [(2, 0), (0, a1)] A (oM 0) := mkeep_ct h a1
theorem ox_same {A : pm_A} {a1 : Int} (h : St A) (h1 : r32 a1) : Cl pmt (an_sh wX) 106 [(2, 0), (0, a1)] A (oX 0) := (st_gct q_X9_same_0 (A := A) (a := [(2, 0), (0, a1)]) ⟨gv_ref (by omega) kk0, ⟨rfl, h1.1, h1.2⟩, trivial⟩ h rfl).imp (fun r q => ⟨gR_some (Or.inl rfl) q.1, q.2⟩)
theorem om_same {A : pm_A} {a1 : Int} (h : RI A) (h1 : r32 a1) : Cl pmt (an_sh wM) 180 [(2, 0), (0, a1)] A (oM 0) := (msame_ex h.g a1).imp (fun r ⟨x, q1, _, q2⟩ => ⟨⟨x, q1⟩, h.typed q2.1 q2.2 rfl⟩)
theorem ox_all {A : pm_A} (h : St A) : Cl pmt (an_sh wX) 83 [(2, 0)] A (oX 0) := (all_ct h).imp (fun r ⟨x, q1, _, q2⟩ => ⟨⟨x, q1⟩, q2⟩)
theorem om_all {A : pm_A} (h : RI A) : Cl pmt (an_sh wM) 123 [(2, 0)] A (oM 0) := mall_ct h
theorem ox_what {A : pm_A} {a1 a2 : Int} (h : St A) (h1 : r32 a1) (h2 : r32 a2) : Cl pmt (an_sh wX) 120 [(2, 0), (0, a1), (0, a2)] A (oX 1) := (st_gct q_X9_what_0 (A := A) (a := [(2, 0), (0, a1), (0, a2)]) ⟨gv_ref (by omega) kk0, ⟨rfl, h1.1, h1.2⟩, ⟨rfl, h2.1, h2.2⟩, trivial⟩ h rfl).imp (fun r q => ⟨gR_some (Or.inr rfl) q.1, q.2⟩)
theorem om_what {A : pm_A} {a1 a2 : Int} (h : RI A) (h1 : r32 a1) (h2 : r32 a2) : Cl pmt (an_sh wM) 203 [(2, 0), (0, a1), (0, a2)] A (oM 1) := (ri_gct q_X10_what_0 (A := A) (a := [(2, 0), (0, a1), (0, a2)]) ⟨gv_ref (by omega) km0, ⟨rfl, h1.1, h1.2⟩, ⟨rfl, h2.1, h2.2⟩, trivial⟩ h rfl).imp (fun r q => ⟨gR_some (Or.inr rfl) q.1, q.2⟩)
theorem ox_finite {A : pm_A} (h : St A) : Cl pmt (an_sh wX) 90 [(2, 0)] A (oX 0) := (st_gct q_X9_finite_0 (A := A) (a := [(2, 0)]) ⟨gv_ref (by omega) kk0, trivial⟩ h rfl).imp (fun r q => ⟨gR_some (Or.inl rfl) q.1, q.2⟩)
theorem om_finite {A : pm_A} (h : RI A) : Cl pmt (an_sh wM) 141 [(2, 0)] A (oM 0) := mfinite_ct h
theorem ox_step {A : pm_A} {a1 : Int} (h : St A) (h1 : r32 a1) : Cl pmt (an_sh wX) 110 [(2, 0), (0, a1)] A (oX 0) := (st_gct q_X9_step_0 (A := A) (a := [(2, 0), (0, a1)]) ⟨gv_ref (by omega) kk0, ⟨rfl, h1.1, h1.2⟩, trivial⟩ h rfl).imp (fun r q => ⟨gR_some (Or.inl rfl) q.1, q.2⟩)
theorem om_step {A : pm_A} {a1 : Int} (h : RI A) (h1 : r32 a1) : Cl pmt (an_sh wM) 185 [(2, 0), (0, a1)] A (oM 0) := (ri_gct q_X10_step_0 (A := A) (a := [(2, 0), (0, a1)]) ⟨gv_ref (by omega) km0, ⟨rfl, h1.1, h1.2⟩, trivial⟩ h rfl).imp (fun r q => ⟨gR_some (Or.inl rfl) q.1, q.2⟩)
theorem ox_tables {A : pm_A} (h : St A) : Cl pmt (an_sh wX) 112 [(2, 0)] A (oX 0) := (st_gct q_X9_tables_0 (A := A) (a := [(2, 0)]) ⟨gv_ref (by omega) kk0, trivial⟩ h rfl).imp (fun r q => ⟨gR_some (Or.inl rfl) q.1, q.2⟩)
theorem om_tables {A : pm_A} (h : RI A) : Cl pmt (an_sh wM) 189 [(2, 0)] A (oM 0) := (ri_gct q_X10_tables_0 (A := A) (a := [(2, 0)]) ⟨gv_ref (by omega) km0, trivial⟩ h rfl).imp (fun r q => ⟨gR_some (Or.inl rfl) q.1, q.2⟩)
theorem ox_row {A : pm_A} {a1 a2 a3 : Int} (h : St A) (h1 : r32 a1) (h2 : r32 a2) (h3 : r32 a3) : Cl pmt (an_sh wX) 105 [(2, 0), (0, a1), (0, a2), (0, a3)] A (oX 0) := (st_gct q_X9_row_0 (A := A) (a := [(2, 0), (0, a1), (0, a2), (0, a3)]) ⟨gv_ref (by omega) kk0, ⟨rfl, h1.1, h1.2⟩, ⟨rfl, h2.1, h2.2⟩, ⟨rfl, h3.1, h3.2⟩, trivial⟩ h rfl).imp (fun r q => ⟨gR_some (Or.inl rfl) q.1, q.2⟩)
theorem om_row {A : pm_A} {a1 a2 a3 : Int} (h : RI A) (h1 : r32 a1) (h2 : r32 a2) (h3 : r32 a3) : Cl pmt (an_sh wM) 179 [(2, 0), (0, a1), (0, a2), (0, a3)] A (oM 0) := (ri_gct q_X10_row_0 (A := A) (a := [(2, 0), (0, a1), (0, a2), (0, a3)]) ⟨gv_ref (by omega) km0, ⟨rfl, h1.1, h1.2⟩, ⟨rfl, h2.1, h2.2⟩, ⟨rfl, h3.1, h3.2⟩, trivial⟩ h rfl).imp (fun r q => ⟨gR_some (Or.inl rfl) q.1, q.2⟩)
theorem ox_order {A : pm_A} (h : St A) : Cl pmt (an_sh wX) 102 [(2, 0)] A (oX 0) := (order_ct h).imp (fun r ⟨x, q1, _, q2⟩ => ⟨⟨x, q1⟩, q2⟩)
theorem om_order {A : pm_A} (h : RI A) : Cl pmt (an_sh wM) 170 [(2, 0)] A (oM 0) := morder_ct h
theorem ox_ring {A : pm_A} {a1 a2 : Int} (h : St A) (h1 : r32 a1) (h2 : r32 a2) : Cl pmt (an_sh wX) 103 [(2, 0), (0, a1), (0, a2)] A (oX 0) := (st_gct q_X9_ring_0 (A := A) (a := [(2, 0), (0, a1), (0, a2)]) ⟨gv_ref (by omega) kk0, ⟨rfl, h1.1, h1.2⟩, ⟨rfl, h2.1, h2.2⟩, trivial⟩ h rfl).imp (fun r q => ⟨gR_some (Or.inl rfl) q.1, q.2⟩)
theorem om_ring {A : pm_A} {a1 a2 : Int} (h : RI A) (h1 : r32 a1) (h2 : r32 a2) : Cl pmt (an_sh wM) 177 [(2, 0), (0, a1), (0, a2)] A (oM 0) := mring_ct h a1 a2
theorem ox_fence {A : pm_A} {a1 a2 a3 : Int} (h : St A) (h1 : r32 a1) (h2 : r32 a2) (h3 : r32 a3) : Cl pmt (an_sh wX) 89 [(2, 0), (0, a1), (0, a2), (0, a3)] A (oX 0) := (st_gct q_X9_fence_0 (A := A) (a := [(2, 0), (0, a1), (0, a2), (0, a3)]) ⟨gv_ref (by omega) kk0, ⟨rfl, h1.1, h1.2⟩, ⟨rfl, h2.1, h2.2⟩, ⟨rfl, h3.1, h3.2⟩, trivial⟩ h rfl).imp (fun r q => ⟨gR_some (Or.inl rfl) q.1, q.2⟩)
theorem om_fence {A : pm_A} {a1 a2 a3 : Int} (h : RI A) (h1 : r32 a1) (h2 : r32 a2) (h3 : r32 a3) : Cl pmt (an_sh wM) 138 [(2, 0), (0, a1), (0, a2), (0, a3)] A (oM 0) := mfence_ct h a1 a2 a3
theorem ox_flip {A : pm_A} {a1 a2 a3 : Int} (h : St A) (h1 : r32 a1) (h2 : r32 a2) (h3 : r32 a3) : Cl pmt (an_sh wX) 91 [(2, 0), (0, a1), (0, a2), (0, a3)] A (oX 0) := (st_gct q_X9_flip_0 (A := A) (a := [(2, 0), (0, a1), (0, a2), (0, a3)]) ⟨gv_ref (by omega) kk0, ⟨rfl, h1.1, h1.2⟩, ⟨rfl, h2.1, h2.2⟩, ⟨rfl, h3.1, h3.2⟩, trivial⟩ h rfl).imp (fun r q => ⟨gR_some (Or.inl rfl) q.1, q.2⟩)
theorem om_flip {A : pm_A} {a1 a2 a3 : Int} (h : RI A) (h1 : r32 a1) (h2 : r32 a2) (h3 : r32 a3) : Cl pmt (an_sh wM) 143 [(2, 0), (0, a1), (0, a2), (0, a3)] A (oM 0) := mflip_ct h a1 a2 a3
theorem ox_ringOf {A : pm_A} {a1 a2 : Int} (h : St A) (h1 : r32 a1) (h2 : r32 a2) : Cl pmt (an_sh wX) 104 [(2, 0), (0, a1), (0, a2)] A (oX 0) := (st_gct q_X9_ringOf_0 (A := A) (a := [(2, 0), (0, a1), (0, a2)]) ⟨gv_ref (by omega) kk0, ⟨rfl, h1.1, h1.2⟩, ⟨rfl, h2.1, h2.2⟩, trivial⟩ h rfl).imp (fun r q => ⟨gR_some (Or.inl rfl) q.1, q.2⟩)
theorem om_ringOf {A : pm_A} {a1 a2 : Int} (h : RI A) (h1 : r32 a1) (h2 : r32 a2) : Cl pmt (an_sh wM) 178 [(2, 0), (0, a1), (0, a2)] A (oM 0) := (ri_gct q_X10_ringOf_0 (A := A) (a := [(2, 0), (0, a1), (0, a2)]) ⟨gv_ref (by omega) km0, ⟨rfl, h1.1, h1.2⟩, ⟨rfl, h2.1, h2.2⟩, trivial⟩ h rfl).imp (fun r q => ⟨gR_some (Or.inl rfl) q.1, q.2⟩)
theorem ox_frieze {A : pm_A} {a1 a2 a3 : Int} (h : St A) (h1 : r32 a1) (h2 : r32 a2) (h3 : r32 a3) : Cl pmt (an_sh wX) 92 [(2, 0), (0, a1), (0, a2), (0, a3)] A (oX 1) := (st_gct q_X9_frieze_0 (A := A) (a := [(2, 0), (0, a1), (0, a2), (0, a3)]) ⟨gv_ref (by omega) kk0, ⟨rfl, h1.1, h1.2⟩, ⟨rfl, h2.1, h2.2⟩, ⟨rfl, h3.1, h3.2⟩, trivial⟩ h rfl).imp (fun r q => ⟨gR_some (Or.inr rfl) q.1, q.2⟩)
theorem om_frieze {A : pm_A} {a1 a2 a3 : Int} (h : RI A) (h1 : r32 a1) (h2 : r32 a2) (h3 : r32 a3) : Cl pmt (an_sh wM) 145 [(2, 0), (0, a1), (0, a2), (0, a3)] A (oM 1) := (ri_gct q_X10_frieze_0 (A := A) (a := [(2, 0), (0, a1), (0, a2), (0, a3)]) ⟨gv_ref (by omega) km0, ⟨rfl, h1.1, h1.2⟩, ⟨rfl, h2.1, h2.2⟩, ⟨rfl, h3.1, h3.2⟩, trivial⟩ h rfl).imp (fun r q => ⟨gR_some (Or.inr rfl) q.1, q.2⟩)
theorem ox_way {A : pm_A} (h : St A) : Cl pmt (an_sh wX) 119 [(2, 0)] A (oX 0) := (st_gct q_X9_way_0 (A := A) (a := [(2, 0)]) ⟨gv_ref (by omega) kk0, trivial⟩ h rfl).imp (fun r q => ⟨gR_some (Or.inl rfl) q.1, q.2⟩)
theorem om_way {A : pm_A} (h : RI A) : Cl pmt (an_sh wM) 202 [(2, 0)] A (oM 0) := mway_ct h
theorem ox_goes {A : pm_A} {a1 : Int} (h : St A) (h1 : r32 a1) : Cl pmt (an_sh wX) 93 [(2, 0), (0, a1)] A (oX 0) := (st_gct q_X9_goes_0 (A := A) (a := [(2, 0), (0, a1)]) ⟨gv_ref (by omega) kk0, ⟨rfl, h1.1, h1.2⟩, trivial⟩ h rfl).imp (fun r q => ⟨gR_some (Or.inl rfl) q.1, q.2⟩)
theorem om_goes {A : pm_A} {a1 : Int} (h : RI A) (h1 : r32 a1) : Cl pmt (an_sh wM) 146 [(2, 0), (0, a1)] A (oM 0) := (ri_gct q_X10_goes_0 (A := A) (a := [(2, 0), (0, a1)]) ⟨gv_ref (by omega) km0, ⟨rfl, h1.1, h1.2⟩, trivial⟩ h rfl).imp (fun r q => ⟨gR_some (Or.inl rfl) q.1, q.2⟩)
theorem ox_seed {A : pm_A} {a1 : Int} (h : St A) (h1 : r32 a1) : Cl pmt (an_sh wX) 107 [(2, 0), (0, a1)] A (oX 0) := (st_gct q_X9_seed_0 (A := A) (a := [(2, 0), (0, a1)]) ⟨gv_ref (by omega) kk0, ⟨rfl, h1.1, h1.2⟩, trivial⟩ h rfl).imp (fun r q => ⟨gR_some (Or.inl rfl) q.1, q.2⟩)
theorem om_seed {A : pm_A} {a1 : Int} (h : RI A) (h1 : r32 a1) : Cl pmt (an_sh wM) 183 [(2, 0), (0, a1)] A (oM 0) := mseed_ct h a1
theorem ox_count {A : pm_A} {a1 : Int} (h : St A) (h1 : r32 a1) : Cl pmt (an_sh wX) 88 [(2, 0), (0, a1)] A (oX 0) := (st_gct q_X9_count_0 (A := A) (a := [(2, 0), (0, a1)]) ⟨gv_ref (by omega) kk0, ⟨rfl, h1.1, h1.2⟩, trivial⟩ h rfl).imp (fun r q => ⟨gR_some (Or.inl rfl) q.1, q.2⟩)
theorem om_count {A : pm_A} {a1 : Int} (h : RI A) (h1 : r32 a1) : Cl pmt (an_sh wM) 135 [(2, 0), (0, a1)] A (oM 0) := (ri_gct q_X10_count_0 (A := A) (a := [(2, 0), (0, a1)]) ⟨gv_ref (by omega) km0, ⟨rfl, h1.1, h1.2⟩, trivial⟩ h rfl).imp (fun r q => ⟨gR_some (Or.inl rfl) q.1, q.2⟩)
def ab (P : Prop) (r : pm_R) : Prop := (r.1 = some (0, 0) ∧ ¬ P) ∨ (r.1 = some (0, 1) ∧ P)
theorem ab_eq {P : Prop} {r r' : pm_R} (h : ab P r) (h' : ab P r') : r.1 = r'.1 := by
  rcases h with ⟨e, hp⟩ | ⟨e, hp⟩ <;> rcases h' with ⟨e', hp'⟩ | ⟨e', hp'⟩
  · rw [e, e']
  · exact absurd hp' hp
  · exact absurd hp hp'
  · rw [e, e']
theorem srt_Xtable : pm_srt o_X9_table = true := by decide +kernel
theorem xa_table {A : pm_A} {n m : Int} (hA : gH wX A) : Cl pmt (an_sh wX) 111 [(2, 0), (0, n), (0, m)] A (ab (okT n m)) := by
  have d0 := fX_0_1 hA (r := 0) (by omega) kk0
  refine Cl.of (Nat.le_of_ble_eq_true rfl) ?_
  refine wq_ok (full := o_X9_table) srt_Xtable (fr := []) (cuts := []) (J := fun _ _ => False) (fun _ _ h => h.elim) 25 0 _ ?_
  refine ⟨fun h0 => ?_, fun h0 => ?_⟩
  · exact ⟨rfl, Or.inl ⟨rfl, fun ho => by unfold okT at ho; omega⟩⟩
  refine ⟨fun h1 => ?_, fun h1 => ?_⟩
  · exact ⟨rfl, Or.inl ⟨rfl, fun ho => by unfold okT at ho; omega⟩⟩
  refine ⟨fun h2 => ?_, fun h2 => ?_⟩
  · exact ⟨rfl, Or.inl ⟨rfl, fun ho => by unfold okT at ho; omega⟩⟩
  refine ⟨fun h3 => ?_, fun h3 => ?_⟩
  · refine ⟨oX_0 (by omega) kk0 1 rfl, ?_⟩
    refine ⟨rX_3 d0.1 d0.2, ?_⟩
    refine Cl.gct q_X2_restart_0 (A := A) (a := [(2, A 0 1), (0, n), (0, m)]) ⟨gv_ref d0.1 d0.2, ⟨rfl, by simp only; omega, by simp only; omega⟩, ⟨rfl, by simp only; omega, by simp only; omega⟩, trivial⟩ hA ?_
    rintro ⟨r1, C⟩ g1 g2 g3
    cases r1 with
    | some v => exact absurd g1 (by intro q; cases q)
    | none => exact ⟨rfl, Or.inr ⟨rfl, ⟨⟨by omega, by omega⟩, by omega, by omega⟩⟩⟩
  · exact ⟨rfl, Or.inl ⟨rfl, fun ho => by unfold okT at ho; omega⟩⟩
theorem srt_Xkeep : pm_srt o_X9_keep = true := by decide +kernel
theorem xa_keep {A : pm_A} {k : Int} (hA : gH wX A) : Cl pmt (an_sh wX) 99 [(2, 0), (0, k)] A (ab (0 ≤ k ∧ k ≤ 3)) := by
  have k0 := fX_0_5 hA (r := 0) (by omega) kk0
  have s0 := fX_0_0 hA (r := 0) (by omega) kk0
  refine Cl.of (Nat.le_of_ble_eq_true rfl) ?_
  refine wq_ok (full := o_X9_keep) srt_Xkeep (fr := []) (cuts := []) (J := fun _ _ => False) (fun _ _ h => h.elim) 25 0 _ ?_
  refine ⟨fun h0 => ?_, fun h0 => ?_⟩
  · exact ⟨rfl, Or.inl ⟨rfl, by omega⟩⟩
  refine ⟨fun h1 => ?_, fun h1 => ?_⟩
  · have e0 := eX_20 hA k0.1 k0.2 (j := k) (by omega) (by omega)
    refine ⟨oX_0 (by omega) kk0 5 rfl, ?_⟩
    refine ⟨aX_20 k0.1 k0.2 (by omega) (by omega), ?_⟩
    refine ⟨oX_0 (by omega) kk0 0 rfl, ?_⟩
    refine ⟨rX_1 e0.1 e0.2, ?_⟩
    refine Cl.gct q_X7_copyFrom_0 (A := A) (a := [(2, A (A 0 5) k), (2, A 0 0)]) ⟨gv_ref e0.1 e0.2, gv_ref s0.1 s0.2, trivial⟩ hA ?_
    rintro ⟨r1, C⟩ g1 g2 g3
    cases r1 with
    | some v => exact absurd g1 (by intro q; cases q)
    | none => exact ⟨rfl, Or.inr ⟨rfl, by omega⟩⟩
  · exact ⟨rfl, Or.inl ⟨rfl, by omega⟩⟩
def okR (n i k : Int) : Prop := (1 ≤ n ∧ n ≤ 12) ∧ (0 ≤ i ∧ i < n) ∧ 0 ≤ k ∧ k ≤ 5
theorem srt_Xrow : pm_srt o_X9_row = true := by decide +kernel
theorem xa_row {A : pm_A} {n i k : Int} (hA : gH wX A) : Cl pmt (an_sh wX) 105 [(2, 0), (0, n), (0, i), (0, k)] A (ab (okR n i k)) := by
  have h53 : okR n i k → ∀ B, gH wX B → Tm pmt (an_sh wX) o_X9_row 53 ([(2, 0), (0, n), (0, i), (0, k)], [], B) (ab (okR n i k)) := fun ho B hB => by
    have r0 := fX_0_6 hB (r := 0) (by omega) kk0
    have ho2 := ho
    unfold okR at ho2
    refine wq_ok srt_Xrow (fr := []) (cuts := []) (J := fun _ _ => False) (fun _ _ h => h.elim) 12 53 _ ?_
    refine ⟨oX_0 (by omega) kk0 6 rfl, ?_⟩
    refine ⟨tX_21 r0.1 r0.2 (by omega) (by omega) rfl, ?_⟩
    exact ⟨rfl, Or.inr ⟨rfl, ho⟩⟩
  refine Cl.of (Nat.le_of_ble_eq_true rfl) ?_
  refine wq_ok (full := o_X9_row) srt_Xrow (fr := []) (cuts := [53]) (J := fun pc st => pc = 53 ∧ okR n i k ∧ ∃ B, gH wX B ∧ st = ([(2, 0), (0, n), (0, i), (0, k)], [], B)) ?_ 40 0 _ ?_
  · rintro pc st ⟨rfl, ho, B, hB, rfl⟩
    exact h53 ho B hB
  have no : ¬ okR n i k → ab (okR n i k) (some (0, 0), A) := fun h => Or.inl ⟨rfl, h⟩
  refine ⟨fun h0 => ?_, fun h0 => ?_⟩
  · exact ⟨rfl, no (by unfold okR; omega)⟩
  refine ⟨fun h1 => ?_, fun h1 => ?_⟩
  · exact ⟨rfl, no (by unfold okR; omega)⟩
  refine ⟨fun h2 => ?_, fun h2 => ?_⟩
  · exact ⟨rfl, no (by unfold okR; omega)⟩
  refine ⟨fun h3 => ?_, fun h3 => ?_⟩
  · exact ⟨rfl, no (by unfold okR; omega)⟩
  refine ⟨fun h4 => ?_, fun h4 => ?_⟩
  · exact ⟨rfl, no (by unfold okR; omega)⟩
  refine ⟨fun h5 => ?_, fun h5 => ?_⟩
  · have ho : okR n i k := ⟨⟨by omega, by omega⟩, ⟨by omega, by omega⟩, by omega, by omega⟩
    have hB : gH wX (pm_upd A 0 7 n) := gH_upd hA (k := (0, 9, 15, [(2, 1, 0), (2, 3, 0), (2, 4, 0), (2, 19, 0), (0, 0, 100), (2, 20, 0), (2, 21, 0), (0, 0, 12), (2, 1, 0), (2, 5, 0), (0, (-2147483648), 2147483647), (2, 6, 0), (2, 7, 0), (2, 34, 0), (2, 8, 0)])) (by rw [kk0]; rfl) (fun _ j a ha hj => by
      have : j = 7 := by omega
      subst this
      cases ha
      exact ⟨rfl, by simp only; omega, by simp only; omega⟩) (fun q => by cases q)
    have r0 := fX_0_6 hB (r := 0) (by omega) kk0
    refine ⟨oX_0 (by omega) kk0 7 rfl, ?_⟩
    refine ⟨fun h6 => ?_, fun h6 => ?_⟩
    · exact ⟨rfl, ho, A, hA, rfl⟩
    · refine ⟨oX_0 (by omega) kk0 7 rfl, ?_⟩
      refine ⟨oX_0 (by omega) kk0 6 rfl, ?_⟩
      refine ⟨rfl, ?_⟩
      refine Cl.gct q_J7_fill_53178_3 (A := pm_upd A 0 7 n) (a := [(2, pm_upd A 0 7 n 0 6), (0, 0)]) ⟨gv_ref r0.1 r0.2, ⟨rfl, by simp only; omega, by simp only; omega⟩, trivial⟩ hB ?_
      rintro ⟨r1, C⟩ g1 g2 g3
      cases r1 with
      | some v => exact absurd g1 (by intro q; cases q)
      | none => exact ⟨rfl, ho, C, g2, rfl⟩
  · exact ⟨rfl, no (by unfold okR; omega)⟩
theorem srt_XisSlot : pm_srt o_X9_isSlot = true := by decide +kernel
theorem xa_isSlot {A : pm_A} {s : Int} : Cl pmt (an_sh wX) 97 [(0, s)] A (bp A (s = 0 ∨ s = 1)) := by
  refine Cl.of (Nat.le_of_ble_eq_true rfl) ?_
  refine wq_ok (full := o_X9_isSlot) srt_XisSlot (fr := []) (cuts := []) (J := fun _ _ => False) (fun _ _ h => h.elim) 12 0 _ ?_
  refine ⟨fun h0 => ?_, fun h0 => ?_⟩
  · exact ⟨rfl, rfl, 0, rfl, Or.inr ⟨rfl, by omega⟩⟩
  refine ⟨fun h1 => ?_, fun h1 => ?_⟩
  · exact ⟨rfl, rfl, 0, rfl, Or.inr ⟨rfl, by omega⟩⟩
  · exact ⟨rfl, rfl, 1, rfl, Or.inl ⟨rfl, by omega⟩⟩
def okG (s n : Int) : Prop := (s = 0 ∨ s = 1) ∧ 4 ≤ n ∧ n ≤ 10
theorem srt_Xring : pm_srt o_X9_ring = true := by decide +kernel
theorem xa_ring {A : pm_A} {s n : Int} (hA : gH wX A) : Cl pmt (an_sh wX) 103 [(2, 0), (0, s), (0, n)] A (ab (okG s n)) := by
  have h30 : okG s n → ∀ B, gH wX B → Tm pmt (an_sh wX) o_X9_ring 30 ([(2, 0), (0, s), (0, n)], [], B) (ab (okG s n)) := fun ho B hB => by
    have ho2 := ho
    unfold okG at ho2
    have r0 := fX_0_13 hB (r := 0) (by omega) kk0
    have e0 := eX_34 hB r0.1 r0.2 (j := s) (by omega) (by omega)
    refine wq_ok srt_Xring (fr := []) (cuts := []) (J := fun _ _ => False) (fun _ _ h => h.elim) 12 30 _ ?_
    refine ⟨oX_0 (by omega) kk0 13 rfl, ?_⟩
    refine ⟨aX_34 r0.1 r0.2 (by omega) (by omega), ?_⟩
    refine ⟨oX_9 e0.1 e0.2 1 rfl, ?_⟩
    exact ⟨rfl, Or.inr ⟨rfl, ho⟩⟩
  refine Cl.of (Nat.le_of_ble_eq_true rfl) ?_
  refine wq_ok (full := o_X9_ring) srt_Xring (fr := []) (cuts := [4]) (J := fun pc st => pc = 4 ∧ ∃ x : Int, ((x = 1 ∧ (s = 0 ∨ s = 1)) ∨ (x = 0 ∧ ¬ (s = 0 ∨ s = 1))) ∧ st = ([(2, 0), (0, s), (0, n)], [(0, x)], A)) ?_ 10 0 _ ?_
  · rintro pc st ⟨rfl, x, hx, rfl⟩
    have no : ¬ okG s n → ab (okG s n) (some (0, 0), A) := fun h => Or.inl ⟨rfl, h⟩
    refine wq_ok srt_Xring (fr := []) (cuts := [30]) (J := fun pc st => pc = 30 ∧ okG s n ∧ ∃ B, gH wX B ∧ st = ([(2, 0), (0, s), (0, n)], [], B)) ?_ 25 4 _ ?_
    · rintro pc st ⟨rfl, ho, B, hB, rfl⟩
      exact h30 ho B hB
    refine ⟨fun h0 => ?_, fun h0 => ?_⟩
    · exact ⟨rfl, no (by unfold okG; omega)⟩
    refine ⟨fun h1 => ?_, fun h1 => ?_⟩
    · exact ⟨rfl, no (by unfold okG; omega)⟩
    refine ⟨fun h2 => ?_, fun h2 => ?_⟩
    · have hs : s = 0 ∨ s = 1 := by omega
      have r0 := fX_0_13 hA (r := 0) (by omega) kk0
      have e0 := eX_34 hA r0.1 r0.2 (j := s) (by omega) (by omega)
      refine ⟨oX_0 (by omega) kk0 13 rfl, ?_⟩
      refine ⟨aX_34 r0.1 r0.2 (by omega) (by omega), ?_⟩
      refine ⟨oX_9 e0.1 e0.2 0 rfl, ?_⟩
      refine ⟨rfl, ⟨hs, by omega, by omega⟩, _, gH_upd hA (k := (0, 6, 2, [(0, 4, 10), (1, (-9223372036854775808), 9223372036854775807)])) (by rw [e0.2]; rfl) (fun _ j a ha hj => ?_) (fun q => by cases q), rfl⟩
      have : j = 0 := by omega
      subst this
      cases ha
      exact ⟨rfl, by simp only; omega, by simp only; omega⟩
    · exact ⟨rfl, no (by unfold okG; omega)⟩
  · refine ⟨rfl, ?_⟩
    refine (xa_isSlot).imp ?_
    rintro ⟨r1, C⟩ ⟨q1, x, q2, hx⟩
    simp only at q1 q2
    subst q1
    subst q2
    exact ⟨rfl, x, hx, rfl⟩
theorem ma_table {A : pm_A} (h : RI A) (n m : Int) : Cl pmt (an_sh wM) 187 [(2, 0), (0, n), (0, m)] A (ab (okT n m)) := (mtable_ct h n m).imp (fun r q => q.1)
theorem srt_Mkeep2 : pm_srt o_X10_keep = true := by decide +kernel
theorem ka_64 {A : pm_A} {k : Int} (k0 : 0 ≤ k) (k3 : k ≤ 3) : ∀ (m : Nat) (i : Int) (B : pm_A), (6 - i).toNat < m → 0 ≤ i → i ≤ 6 → gH wM B → B 0 7 = A 0 7 → A 0 7 ≤ 6 → Tm pmt (an_sh wM) o_X10_keep 64 ([(2, 0), (0, k), (0, i)], [], B) (ab (0 ≤ k ∧ k ≤ 3)) := by
  intro m
  induction m with
  | zero => intro i B h; omega
  | succ m ih =>
    intro i B hm i0 i1 hB e7 p7
    refine wq_ok srt_Mkeep2 (fr := []) (cuts := [86]) (J := fun pc st => (pc = 86 ∧ (i < B 0 7) ∧ ∃ C, gH wM C ∧ C 0 7 = B 0 7 ∧ st = ([(2, 0), (0, k), (0, i)], [], C))) ?_ 18 64 _ ?_
    · rintro pc st (⟨rfl, h0, C, g2, e, rfl⟩)
      refine wq_ok srt_Mkeep2 (fr := []) (cuts := [64]) (J := fun pc st => (pc = 64 ∧ st = ([(2, 0), (0, k), (0, i + 1)], [], C))) ?_ 7 86 _ ?_
      · rintro pc st (⟨rfl, rfl⟩)
        exact ih (i + 1) C (by omega) (by omega) (by omega) g2 (by omega) p7
      · refine ⟨⟨by omega, by omega⟩, ?_⟩
        exact ⟨rfl, rfl⟩
    · refine ⟨oM_0 (by omega) km0 7 rfl, ?_⟩
      refine ⟨fun h0 => ?_, fun h0 => ?_⟩
      · exact ⟨rfl, Or.inr ⟨rfl, by omega⟩⟩
      · refine ⟨⟨by omega, by omega⟩, ?_⟩
        refine ⟨⟨by omega, by omega⟩, ?_⟩
        refine ⟨⟨by omega, by omega⟩, ?_⟩
        refine ⟨rM_0 (by omega) km0, ?_⟩
        refine Cl.gct q_X10_copy_0 (A := B) (a := [(2, 0), (0, (6 + (6 * k)) + i), (0, i)]) ⟨gv_ref (by omega) km0, ⟨rfl, by simp only; omega, by simp only; omega⟩, ⟨rfl, by simp only; omega, by simp only; omega⟩, trivial⟩ hB ?_
        rintro ⟨r1, C⟩ g1 g2 g3
        simp only at g1 g2 g3
        cases r1 with
        | some v => exact absurd g1 (by intro q; cases q)
        | none => exact ⟨rfl, h0, C, g2, g3 0 7 (by omega) (by omega) (by unfold mcode; rw [shM_0 km0]; decide), rfl⟩
theorem ka_33 {A : pm_A} {k : Int} (k0 : 0 ≤ k) (k3 : k ≤ 3) : ∀ (m : Nat) (i : Int) (B : pm_A), (72 - i).toNat < m → 0 ≤ i → i ≤ 72 → gH wM B → B 0 7 = A 0 7 → A 0 7 ≤ 6 → Tm pmt (an_sh wM) o_X10_keep 33 ([(2, 0), (0, k), (0, i)], [], B) (ab (0 ≤ k ∧ k ≤ 3)) := by
  intro m
  induction m with
  | zero => intro i B h; omega
  | succ m ih =>
    intro i B hm i0 i1 hB e7 p7
    have c9 := pM_9 hB
    have c22 := pM_22 hB
    refine wq_ok srt_Mkeep2 (fr := []) (cuts := [33, 64]) (J := fun pc st => (pc = 64 ∧ (72 ≤ i) ∧ st = ([(2, 0), (0, k), (0, 0)], [], B)) ∨ (pc = 33 ∧ (i < 72) ∧ st = ([(2, 0), (0, k), (0, i + 1)], [], pm_upd B (B 0 22) ((72 * k) + i) (B (B 0 9) i)))) ?_ 22 33 _ ?_
    · rintro pc st (⟨rfl, h0, rfl⟩ | ⟨rfl, h0, rfl⟩)
      · exact ka_64 k0 k3 _ 0 B (Nat.lt_succ_self _) (by omega) (by omega) hB e7 p7
      · rw [c22, c9]
        have b := eM_5 hB (r := 5) (by omega) kn5 i0 (show i < 72 by omega)
        exact ih (i + 1) _ (by omega) (by omega) (by omega) (uM_15 hB kn15 b.1 b.2) (by rw [upd_o (by omega)]; exact e7) p7
    · refine ⟨fun h0 => ?_, fun h0 => ?_⟩
      · exact Or.inl (⟨rfl, h0, rfl⟩)
      · refine ⟨oM_0 (by omega) km0 22 rfl, ?_⟩
        refine ⟨⟨by omega, by omega⟩, ?_⟩
        refine ⟨⟨by omega, by omega⟩, ?_⟩
        refine ⟨oM_0 (by omega) km0 9 rfl, ?_⟩
        refine ⟨aM_5 (r := B 0 9) (by rw [c9]; omega) (by rw [c9]; exact kn5) (by omega) (by omega), ?_⟩
        have e1 : B (B 0 9) i = B 5 i := by rw [c9]
        refine ⟨tM_15 (r := B 0 22) (by rw [c22]; omega) (by rw [c22]; exact kn15) (by omega) (by omega) rfl, ?_⟩
        refine ⟨⟨by omega, by omega⟩, ?_⟩
        exact Or.inr (⟨rfl, h0, rfl⟩)
theorem ma_keep {A : pm_A} {k : Int} (hA : gH wM A) : Cl pmt (an_sh wM) 160 [(2, 0), (0, k)] A (ab (0 ≤ k ∧ k ≤ 3)) := by
  have c20 := pM_20 hA
  have p7 := fM_0_7 hA (r := 0) (by omega) km0
  have p8 := fM_0_8 hA (r := 0) (by omega) km0
  have h21 : 0 ≤ k → k ≤ 3 → ∀ B, gH wM B → B 0 7 = A 0 7 → Tm pmt (an_sh wM) o_X10_keep 21 ([(2, 0), (0, k), (9, 0)], [], B) (ab (0 ≤ k ∧ k ≤ 3)) := fun k0 k3 B hB e7 => by
    have c21 := pM_21 hB
    have q8 := fM_0_8 hB (r := 0) (by omega) km0
    refine wq_ok srt_Mkeep2 (fr := []) (cuts := [33]) (J := fun pc st => (pc = 33 ∧ st = ([(2, 0), (0, k), (0, 0)], [], pm_upd B (B 0 21) k (B 0 8)))) ?_ 13 21 _ ?_
    · rintro pc st (⟨rfl, rfl⟩)
      rw [c21]
      exact ka_33 k0 k3 _ 0 _ (Nat.lt_succ_self _) (by omega) (by omega) (uM_14 hB kn14 q8.1 q8.2) (by rw [upd_o (by omega)]; exact e7) p7.2
    · refine ⟨oM_0 (by omega) km0 21 rfl, ?_⟩
      refine ⟨oM_0 (by omega) km0 8 rfl, ?_⟩
      refine ⟨tM_14 (r := B 0 21) (by rw [c21]; omega) (by rw [c21]; exact kn14) (by omega) (by omega) rfl, ?_⟩
      exact ⟨rfl, rfl⟩
  refine Cl.of (Nat.le_of_ble_eq_true rfl) ?_
  refine wq_ok (full := o_X10_keep) srt_Mkeep2 (fr := []) (cuts := [21]) (J := fun pc st => (pc = 21 ∧ (0 ≤ k) ∧ (k ≤ 3) ∧ st = ([(2, 0), (0, k), (9, 0)], [], pm_upd A (A 0 20) k (A 0 7)))) ?_ 16 0 _ ?_
  · rintro pc st (⟨rfl, h0, h1, rfl⟩)
    rw [c20]
    exact h21 (by omega) (by omega) _ (uM_13 hA kn13 p7.1 p7.2) (upd_o (by omega))
  · refine ⟨fun h0 => ?_, fun h0 => ?_⟩
    · exact ⟨rfl, Or.inl ⟨rfl, by omega⟩⟩
    · refine ⟨fun h1 => ?_, fun h1 => ?_⟩
      · refine ⟨oM_0 (by omega) km0 20 rfl, ?_⟩
        refine ⟨oM_0 (by omega) km0 7 rfl, ?_⟩
        refine ⟨tM_13 (r := A 0 20) (by rw [c20]; omega) (by rw [c20]; exact kn13) (by omega) (by omega) rfl, ?_⟩
        exact ⟨rfl, h0, h1, rfl⟩
      · exact ⟨rfl, Or.inl ⟨rfl, by omega⟩⟩
theorem srt_Mrow2 : pm_srt o_X10_row = true := by decide +kernel
theorem ra_63 {B : pm_A} {n i k : Int} (hB : gH wM B) (ho : okR n i k) {w4 : pm_V} : Tm pmt (an_sh wM) o_X10_row 63 ([(2, 0), (0, n), (0, i), (0, k), w4], [], B) (ab (okR n i k)) := by
  have ho2 := ho
  unfold okR at ho2
  have h68 : ∀ C, gH wM C → Tm pmt (an_sh wM) o_X10_row 68 ([(2, 0), (0, n), (0, i), (0, k), w4], [], C) (ab (okR n i k)) := fun C hC => by
    have c47 := pM_47 hC
    refine wq_ok srt_Mrow2 (fr := []) (cuts := []) (J := fun _ _ => False) ?_ 11 68 _ ?_
    · intro pc st h; exact h.elim
    · refine ⟨oM_0 (by omega) km0 47 rfl, ?_⟩
      refine ⟨tM_30 (r := C 0 47) (by rw [c47]; omega) (by rw [c47]; exact kn30) (by omega) (by omega) rfl, ?_⟩
      exact ⟨rfl, Or.inr ⟨rfl, ho⟩⟩
  refine wq_ok srt_Mrow2 (fr := []) (cuts := [68]) (J := fun pc st => (pc = 68 ∧ st = ([(2, 0), (0, n), (0, i), (0, k), w4], [], pm_upd B 0 46 n))) ?_ 8 63 _ ?_
  · rintro pc st (⟨rfl, rfl⟩)
    exact h68 _ (uM_0_46 hB (by omega) (by omega))
  · refine ⟨oM_0 (by omega) km0 46 rfl, ?_⟩
    exact ⟨rfl, rfl⟩
theorem ra_42 {n i k : Int} (ho : okR n i k) : ∀ (m : Nat) (j : Int) (B : pm_A), (12 - j).toNat < m → 0 ≤ j → j ≤ 12 → gH wM B → Tm pmt (an_sh wM) o_X10_row 42 ([(2, 0), (0, n), (0, i), (0, k), (0, j)], [], B) (ab (okR n i k)) := by
  intro m
  induction m with
  | zero => intro j B h; omega
  | succ m ih =>
    intro j B hm j0 j1 hB
    have c47 := pM_47 hB
    refine wq_ok srt_Mrow2 (fr := []) (cuts := [42, 63]) (J := fun pc st => (pc = 63 ∧ (12 ≤ j) ∧ st = ([(2, 0), (0, n), (0, i), (0, k), (0, j)], [], B)) ∨ (pc = 42 ∧ (j < 12) ∧ st = ([(2, 0), (0, n), (0, i), (0, k), (0, j + 1)], [], pm_upd B (B 0 47) j 0))) ?_ 15 42 _ ?_
    · rintro pc st (⟨rfl, h0, rfl⟩ | ⟨rfl, h0, rfl⟩)
      · exact ra_63 hB ho
      · rw [c47]
        exact ih (j + 1) _ (by omega) (by omega) (by omega) (uM_30 hB kn30 (by omega) (by omega))
    · refine ⟨fun h0 => ?_, fun h0 => ?_⟩
      · exact Or.inl (⟨rfl, h0, rfl⟩)
      · refine ⟨oM_0 (by omega) km0 47 rfl, ?_⟩
        refine ⟨tM_30 (r := B 0 47) (by rw [c47]; omega) (by rw [c47]; exact kn30) (by omega) (by omega) rfl, ?_⟩
        refine ⟨⟨by omega, by omega⟩, ?_⟩
        exact Or.inr (⟨rfl, h0, rfl⟩)
theorem ma_row {A : pm_A} {n i k : Int} (hA : gH wM A) : Cl pmt (an_sh wM) 179 [(2, 0), (0, n), (0, i), (0, k)] A (ab (okR n i k)) := by
  refine Cl.of (Nat.le_of_ble_eq_true rfl) ?_
  refine wq_ok (full := o_X10_row) srt_Mrow2 (fr := []) (cuts := [42, 63]) (J := fun pc st => (pc = 63 ∧ (1 ≤ n) ∧ (n ≤ 12) ∧ (0 ≤ i) ∧ (i < n) ∧ (0 ≤ k) ∧ (k ≤ 5) ∧ (n = (A 0 46)) ∧ st = ([(2, 0), (0, n), (0, i), (0, k), (9, 0)], [], A)) ∨ (pc = 42 ∧ (1 ≤ n) ∧ (n ≤ 12) ∧ (0 ≤ i) ∧ (i < n) ∧ (0 ≤ k) ∧ (k ≤ 5) ∧ (¬ n = (A 0 46)) ∧ st = ([(2, 0), (0, n), (0, i), (0, k), (0, 0)], [], A))) ?_ 27 0 _ ?_
  · rintro pc st (⟨rfl, h0, h1, h2, h3, h4, h5, h6, rfl⟩ | ⟨rfl, h0, h1, h2, h3, h4, h5, h6, rfl⟩)
    · exact ra_63 hA ⟨⟨by omega, by omega⟩, ⟨by omega, by omega⟩, by omega, by omega⟩
    · exact ra_42 ⟨⟨by omega, by omega⟩, ⟨by omega, by omega⟩, by omega, by omega⟩ _ 0 A (Nat.lt_succ_self _) (by omega) (by omega) hA
  · refine ⟨fun h0 => ?_, fun h0 => ?_⟩
    · exact ⟨rfl, Or.inl ⟨rfl, by unfold okR; omega⟩⟩
    · refine ⟨fun h1 => ?_, fun h1 => ?_⟩
      · exact ⟨rfl, Or.inl ⟨rfl, by unfold okR; omega⟩⟩
      · refine ⟨fun h2 => ?_, fun h2 => ?_⟩
        · exact ⟨rfl, Or.inl ⟨rfl, by unfold okR; omega⟩⟩
        · refine ⟨fun h3 => ?_, fun h3 => ?_⟩
          · exact ⟨rfl, Or.inl ⟨rfl, by unfold okR; omega⟩⟩
          · refine ⟨fun h4 => ?_, fun h4 => ?_⟩
            · exact ⟨rfl, Or.inl ⟨rfl, by unfold okR; omega⟩⟩
            · refine ⟨fun h5 => ?_, fun h5 => ?_⟩
              · refine ⟨oM_0 (by omega) km0 46 rfl, ?_⟩
                refine ⟨fun h6 => ?_, fun h6 => ?_⟩
                · exact Or.inl (⟨rfl, h0, h1, h2, h3, h4, h5, h6, rfl⟩)
                · exact Or.inr (⟨rfl, h0, h1, h2, h3, h4, h5, h6, rfl⟩)
              · exact ⟨rfl, Or.inl ⟨rfl, by unfold okR; omega⟩⟩
theorem rga_30 {sl n : Int} (ho : okG sl n) : ∀ (m : Nat) (i : Int) (B : pm_A), (100 - i).toNat < m → 0 ≤ i → i ≤ 100 → gH wM B → Tm pmt (an_sh wM) o_X10_ring 30 ([(2, 0), (0, sl), (0, n), (0, i)], [], B) (ab (okG sl n)) := by
  have ho2 := ho
  unfold okG at ho2
  intro m
  induction m with
  | zero => intro i B h; omega
  | succ m ih =>
    intro i B hm i0 i1 hB
    have c49 := pM_49 hB
    refine wq_ok srt_Mring (fr := []) (cuts := [30]) (J := fun pc st => (pc = 30 ∧ (i < 100) ∧ st = ([(2, 0), (0, sl), (0, n), (0, i + 1)], [], pm_upd B (B 0 49) ((100 * sl) + i) 0))) ?_ 19 30 _ ?_
    · rintro pc st (⟨rfl, h0, rfl⟩)
      rw [c49]
      exact ih (i + 1) _ (by omega) (by omega) (by omega) (uM_32 hB kn32 (by omega) (by omega))
    · refine ⟨fun h0 => ?_, fun h0 => ?_⟩
      · exact ⟨rfl, Or.inr ⟨rfl, ho⟩⟩
      · refine ⟨oM_0 (by omega) km0 49 rfl, ?_⟩
        refine ⟨⟨by omega, by omega⟩, ?_⟩
        refine ⟨⟨by omega, by omega⟩, ?_⟩
        refine ⟨tM_32 (r := B 0 49) (by rw [c49]; omega) (by rw [c49]; exact kn32) (by omega) (by omega) rfl, ?_⟩
        refine ⟨⟨by omega, by omega⟩, ?_⟩
        exact ⟨rfl, h0, rfl⟩
theorem ma_ring {A : pm_A} {sl n : Int} (hA : gH wM A) : Cl pmt (an_sh wM) 177 [(2, 0), (0, sl), (0, n)] A (ab (okG sl n)) := by
  have c48 := pM_48 hA
  refine Cl.of (Nat.le_of_ble_eq_true rfl) ?_
  refine wq_ok (full := o_X10_ring) srt_Mring (fr := []) (cuts := [5]) (J := fun pc st => (pc = 5 ∧ ∃ x : Int, ((x = 1 ∧ (sl = 0 ∨ sl = 1)) ∨ (x = 0 ∧ ¬ (sl = 0 ∨ sl = 1))) ∧ st = ([(2, 0), (0, sl), (0, n), (9, 0)], [(0, x)], A))) ?_ 7 0 _ ?_
  · rintro pc st (⟨rfl, x, hx, rfl⟩)
    refine wq_ok srt_Mring (fr := []) (cuts := [30]) (J := fun pc st => (pc = 30 ∧ (¬ x = 0) ∧ (4 ≤ n) ∧ (n ≤ 10) ∧ st = ([(2, 0), (0, sl), (0, n), (0, 0)], [], pm_upd A (A 0 48) sl n))) ?_ 19 5 _ ?_
    · rintro pc st (⟨rfl, h0, h1, h2, rfl⟩)
      have hs : sl = 0 ∨ sl = 1 := by omega
      rw [c48]
      exact rga_30 ⟨hs, by omega, by omega⟩ _ 0 _ (Nat.lt_succ_self _) (by omega) (by omega) (uM_31 hA kn31 (by omega) (by omega))
    · refine ⟨fun h0 => ?_, fun h0 => ?_⟩
      · exact ⟨rfl, Or.inl ⟨rfl, by unfold okG; omega⟩⟩
      · refine ⟨fun h1 => ?_, fun h1 => ?_⟩
        · exact ⟨rfl, Or.inl ⟨rfl, by unfold okG; omega⟩⟩
        · refine ⟨fun h2 => ?_, fun h2 => ?_⟩
          · refine ⟨oM_0 (by omega) km0 48 rfl, ?_⟩
            refine ⟨tM_31 (r := A 0 48) (by rw [c48]; omega) (by rw [c48]; exact kn31) (by omega) (by omega) rfl, ?_⟩
            exact ⟨rfl, h0, h1, h2, rfl⟩
          · exact ⟨rfl, Or.inl ⟨rfl, by unfold okG; omega⟩⟩
  · refine ⟨rM_0 (by omega) km0, ?_⟩
    refine (MisSlot_ex).imp ?_
    rintro ⟨r1, C⟩ ⟨q1, x, q2, hx⟩
    simp only at q1 q2
    subst q1
    subst q2
    exact ⟨rfl, x, hx, rfl⟩
