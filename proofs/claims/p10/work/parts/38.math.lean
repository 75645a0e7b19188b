/-! MATH: its three methods, by the kit's rows -/
section MA
variable {G : rx_G} {MT : Nat → rx_M} {M : rx_M} {pc : Nat}
def rx_max (x y : Int32) : Int32 := if x < y then y else x
def rx_min (x y : Int32) : Int32 := if y < x then y else x
def rx_abs (x : Int32) : Int32 := if 0 ≤ x then x else 0 - x
noncomputable def rx_m2 (g : Int32 → Int32 → Int32) (RC RS RL pc' : Nat) : rx_T := fun _ st => match st.2.1 with
  | .int y :: .int x :: sk => cond (Nat.ble ((sk.map rx_cat).sum + 13) RL && (Nat.ble st.2.2.2.1 RC && Nat.ble st.2.2.2.2 RS)) (rx_fI (g x y) (fun z => some (.inl (pc', (st.1, .int z :: sk, st.2.2))))) none
  | _ => none
noncomputable def rx_m1 (g : Int32 → Int32) (RC RS RL pc' : Nat) : rx_T := fun _ st => match st.2.1 with
  | .int x :: sk => cond (Nat.ble ((sk.map rx_cat).sum + 13) RL && (Nat.ble st.2.2.2.1 RC && Nat.ble st.2.2.2.2 RS)) (rx_fI (g x) (fun z => some (.inl (pc', (st.1, .int z :: sk, st.2.2))))) none
  | _ => none
theorem rx_sd_mmax {index : Nat} (hl0 : Cond.methodLink M.1.cls index Lib.Math.max.name ∈ G.gT) (hs0 : Cond.static Lib.Math.max.name ∈ G.gT) (hi0 : Cond.initialized "java/lang/Math" ∈ G.gT) (hc0 : Cond.code Lib.Math.max.name Lib.Math.max.code 2 (some .int) ∈ G.gT) (hf : 1 ≤ M.2.2.2.2.1.frames) (d : decode M.2.1 pc = .ok (.invokestatic index, 3)) : rx_Sd G MT M pc (rx_m2 rx_max M.2.2.2.2.1.cells M.2.2.2.2.1.slots M.2.2.2.2.1.locals (pc + 3)) := by
  intro p e s m args below meth c A X rec hrec st o h ρ0 r hgo
  obtain ⟨hx, hb, hml, hr, hown, hts, hlk, hnm, hK, hA⟩ := X
  obtain ⟨lv, sk, ws, c0, s0⟩ := st
  intro tl cws H locs ls cst clv hw hP hD hS hlv hl hst
  unfold rx_m2 at h
  simp only [rx_fI_eq] at h hst hlv hw
  match sk, cst, h, hst with
  | .int y :: .int x :: sr, w1 :: w2 :: cr, h, ⟨h1, h2, h3⟩ =>
    simp only at h
    obtain ⟨g1, g2⟩ := rx_cond_some h
    simp only [Bool.and_eq_true] at g1
    cases g2; cases h1; cases h2
    exact va_mmax hx hb (by rw [hml, hl.1]) hown (hts _ hl0) (hts _ hs0) (hts _ hi0) (hts _ hc0) hf (by rw [h3.cats]; exact Nat.le_of_ble_eq_true g1.1) (Nat.le_of_ble_eq_true g1.2.1) (Nat.le_of_ble_eq_true g1.2.2) d (hgo tl cws H locs ls _ clv hw hP hD hS hlv hl ⟨rfl, h3⟩)
theorem rx_sd_mmin {index : Nat} (hl0 : Cond.methodLink M.1.cls index Lib.Math.min.name ∈ G.gT) (hs0 : Cond.static Lib.Math.min.name ∈ G.gT) (hi0 : Cond.initialized "java/lang/Math" ∈ G.gT) (hc0 : Cond.code Lib.Math.min.name Lib.Math.min.code 2 (some .int) ∈ G.gT) (hf : 1 ≤ M.2.2.2.2.1.frames) (d : decode M.2.1 pc = .ok (.invokestatic index, 3)) : rx_Sd G MT M pc (rx_m2 rx_min M.2.2.2.2.1.cells M.2.2.2.2.1.slots M.2.2.2.2.1.locals (pc + 3)) := by
  intro p e s m args below meth c A X rec hrec st o h ρ0 r hgo
  obtain ⟨hx, hb, hml, hr, hown, hts, hlk, hnm, hK, hA⟩ := X
  obtain ⟨lv, sk, ws, c0, s0⟩ := st
  intro tl cws H locs ls cst clv hw hP hD hS hlv hl hst
  unfold rx_m2 at h
  simp only [rx_fI_eq] at h hst hlv hw
  match sk, cst, h, hst with
  | .int y :: .int x :: sr, w1 :: w2 :: cr, h, ⟨h1, h2, h3⟩ =>
    simp only at h
    obtain ⟨g1, g2⟩ := rx_cond_some h
    simp only [Bool.and_eq_true] at g1
    cases g2; cases h1; cases h2
    exact va_mmin hx hb (by rw [hml, hl.1]) hown (hts _ hl0) (hts _ hs0) (hts _ hi0) (hts _ hc0) hf (by rw [h3.cats]; exact Nat.le_of_ble_eq_true g1.1) (Nat.le_of_ble_eq_true g1.2.1) (Nat.le_of_ble_eq_true g1.2.2) d (hgo tl cws H locs ls _ clv hw hP hD hS hlv hl ⟨rfl, h3⟩)
theorem rx_sd_mabs {index : Nat} (hl0 : Cond.methodLink M.1.cls index Lib.Math.abs.name ∈ G.gT) (hs0 : Cond.static Lib.Math.abs.name ∈ G.gT) (hi0 : Cond.initialized "java/lang/Math" ∈ G.gT) (hc0 : Cond.code Lib.Math.abs.name Lib.Math.abs.code 1 (some .int) ∈ G.gT) (hf : 1 ≤ M.2.2.2.2.1.frames) (d : decode M.2.1 pc = .ok (.invokestatic index, 3)) : rx_Sd G MT M pc (rx_m1 rx_abs M.2.2.2.2.1.cells M.2.2.2.2.1.slots M.2.2.2.2.1.locals (pc + 3)) := by
  intro p e s m args below meth c A X rec hrec st o h ρ0 r hgo
  obtain ⟨hx, hb, hml, hr, hown, hts, hlk, hnm, hK, hA⟩ := X
  obtain ⟨lv, sk, ws, c0, s0⟩ := st
  intro tl cws H locs ls cst clv hw hP hD hS hlv hl hst
  unfold rx_m1 at h
  simp only [rx_fI_eq] at h hst hlv hw
  match sk, cst, h, hst with
  | .int x :: sr, w1 :: cr, h, ⟨h1, h3⟩ =>
    simp only at h
    obtain ⟨g1, g2⟩ := rx_cond_some h
    simp only [Bool.and_eq_true] at g1
    cases g2; cases h1
    exact va_mabs hx hb (by rw [hml, hl.1]) hown (hts _ hl0) (hts _ hs0) (hts _ hi0) (hts _ hc0) hf (by rw [h3.cats]; exact Nat.le_of_ble_eq_true g1.1) (Nat.le_of_ble_eq_true g1.2.1) (Nat.le_of_ble_eq_true g1.2.2) d (hgo tl cws H locs ls _ clv hw hP hD hS hlv hl ⟨rfl, h3⟩)
end MA
