section
def cx_pk [Mul (cx_S Nat)] [One (cx_S Nat)] [Add (cx_S Nat)] [Zero (cx_S Nat)] [Inhabited (cx_Idx Nat)] [Inhabited (PLift cx_Natl)] {n : Nat} [Zero (cx_Ex n)] [Add (cx_Ex n)] [Mul (cx_S (cx_Ex n))] [One (cx_S (cx_Ex n))] [Add (cx_S (cx_Ex n))] [Zero (cx_S (cx_Ex n))] [Inhabited (cx_Idx (cx_Ex n))] [Inhabited (PLift (cx_Exl n))] [∀ s : cx_Sd n, Add (cx_MM s)] [∀ s : cx_Sd n, Inhabited (PLift (cx_MGl (cx_MM s)))] [∀ s : cx_Sd n, Inhabited (cx_Tord (cx_Ex n) (cx_MM s))] [Inhabited (PLift (cx_MMl n))] (s : cx_Sd n) (k : Fin n) (b : cx_Ex n) : Rat := (cx_p b : cx_MM s).v k
theorem cx_pk_dn [Mul (cx_S Nat)] [One (cx_S Nat)] [Add (cx_S Nat)] [Zero (cx_S Nat)] [Inhabited (cx_Idx Nat)] [Inhabited (PLift cx_Natl)] {n : Nat} [Zero (cx_Ex n)] [Add (cx_Ex n)] [Mul (cx_S (cx_Ex n))] [One (cx_S (cx_Ex n))] [Add (cx_S (cx_Ex n))] [Zero (cx_S (cx_Ex n))] [Inhabited (cx_Idx (cx_Ex n))] [Inhabited (PLift (cx_Exl n))] [∀ s : cx_Sd n, Add (cx_MM s)] [∀ s : cx_Sd n, Inhabited (PLift (cx_MGl (cx_MM s)))] [∀ s : cx_Sd n, Inhabited (cx_Tord (cx_Ex n) (cx_MM s))] [Inhabited (PLift (cx_MMl n))] (s : cx_Sd n) (k : Fin n) (b : cx_Ex n) (j : Nat) : cx_pk s k (cx_dn b k j) = cx_pk s k b := by
  unfold cx_pk
  rw [cx_p_def, cx_p_def]
  refine cx_sm_congr (fun i _ => ?_)
  by_cases hi : i = k
  · subst hi; rw [s.self i, show ((0 : Int) : Rat) = 0 from rfl]; grind
  · rw [cx_dn_ne _ _ hi]
theorem cx_pk_turn [Mul (cx_S Nat)] [One (cx_S Nat)] [Add (cx_S Nat)] [Zero (cx_S Nat)] [Inhabited (cx_Idx Nat)] [Inhabited (PLift cx_Natl)] {n : Nat} [Zero (cx_Ex n)] [Add (cx_Ex n)] [Mul (cx_S (cx_Ex n))] [One (cx_S (cx_Ex n))] [Add (cx_S (cx_Ex n))] [Zero (cx_S (cx_Ex n))] [Inhabited (cx_Idx (cx_Ex n))] [Inhabited (PLift (cx_Exl n))] [∀ s : cx_Sd n, Add (cx_MM s)] [∀ s : cx_Sd n, Inhabited (PLift (cx_MGl (cx_MM s)))] [∀ s : cx_Sd n, Inhabited (cx_Tord (cx_Ex n) (cx_MM s))] [Inhabited (PLift (cx_MMl n))] (s : cx_Sd n) (k : Fin n) (b : cx_Ex n) : cx_pk (cx_turn s k) k b = - cx_pk s k b := by
  unfold cx_pk
  rw [cx_p_def, cx_p_def]
  have e3 : ∀ x : Rat, - x = (-1) * x := fun x => by grind
  rw [e3, ← cx_sm_mulL]
  refine cx_sm_congr (fun i _ => ?_)
  rw [cx_turn_row]
  have : ((- s.b k i : Int) : Rat) = - (s.b k i : Rat) := by exact_mod_cast rfl
  rw [this]; grind
def cx_row [Mul (cx_S Nat)] [One (cx_S Nat)] [Add (cx_S Nat)] [Zero (cx_S Nat)] [Inhabited (cx_Idx Nat)] [Inhabited (PLift cx_Natl)] {n : Nat} [Zero (cx_Ex n)] [Add (cx_Ex n)] [Mul (cx_S (cx_Ex n))] [One (cx_S (cx_Ex n))] [Add (cx_S (cx_Ex n))] [Zero (cx_S (cx_Ex n))] [Inhabited (cx_Idx (cx_Ex n))] [Inhabited (PLift (cx_Exl n))] [∀ s : cx_Sd n, Add (cx_MM s)] [∀ s : cx_Sd n, Inhabited (PLift (cx_MGl (cx_MM s)))] [∀ s : cx_Sd n, Inhabited (cx_Tord (cx_Ex n) (cx_MM s))] [Inhabited (PLift (cx_MMl n))] (x : cx_S (cx_Ex n)) (b : cx_Ex n) (k : Fin n) : cx_S Nat := fun j => x (cx_dn b k j)
theorem cx_lin_row [Mul (cx_S Nat)] [One (cx_S Nat)] [Add (cx_S Nat)] [Zero (cx_S Nat)] [Inhabited (cx_Idx Nat)] [Inhabited (PLift cx_Natl)] {n : Nat} [Zero (cx_Ex n)] [Add (cx_Ex n)] [Mul (cx_S (cx_Ex n))] [One (cx_S (cx_Ex n))] [Add (cx_S (cx_Ex n))] [Zero (cx_S (cx_Ex n))] [Inhabited (cx_Idx (cx_Ex n))] [Inhabited (PLift (cx_Exl n))] [∀ s : cx_Sd n, Add (cx_MM s)] [∀ s : cx_Sd n, Inhabited (PLift (cx_MGl (cx_MM s)))] [∀ s : cx_Sd n, Inhabited (cx_Tord (cx_Ex n) (cx_MM s))] [Inhabited (PLift (cx_MMl n))] (s : cx_Sd n) (k : Fin n) (x : cx_S (cx_Ex n)) (m : cx_MM s) (hm : m.v k = 0) (b : cx_Ex n) :
    cx_lin (cx_E (cx_ee k) (cx_qq s k)) m x b = (cx_row x b k * cx_bs (cx_pk s k b)) (b k) := by
  show cx_D b (fun u t => x u * cx_E (cx_ee k) (cx_qq s k) (m + cx_p u) t) = _
  rw [cx_D_ray k b _ (fun u t h => by rw [show (cx_E (cx_ee k) (cx_qq s k) (m + cx_p u) : cx_S (cx_Ex n)) t = 0 from cx_sub_off _ h, Rat.mul_zero]), cx_nat_mul]
  refine cx_sm_congr (fun i _ => ?_)
  congr 1
  show cx_sub (cx_ee k) (cx_bin (cx_qq s k * cx_pr (cx_ee k) (m + cx_p (cx_dn b k (b k - i))))) (cx_nsm i (cx_ee k)) = cx_bin (cx_pk s k b) i
  rw [cx_sub_at (cx_ee_nz k), cx_qq_pr, cx_mm_add, hm, Rat.zero_add]
  have := cx_pk_dn s k b (b k - i)
  unfold cx_pk at this
  rw [this]; rfl
theorem cx_cj_of_pair [Mul (cx_S Nat)] [One (cx_S Nat)] [Add (cx_S Nat)] [Zero (cx_S Nat)] [Inhabited (cx_Idx Nat)] [Inhabited (PLift cx_Natl)] {n : Nat} [Zero (cx_Ex n)] [Add (cx_Ex n)] [Mul (cx_S (cx_Ex n))] [One (cx_S (cx_Ex n))] [Add (cx_S (cx_Ex n))] [Zero (cx_S (cx_Ex n))] [Inhabited (cx_Idx (cx_Ex n))] [Inhabited (PLift (cx_Exl n))] [∀ s : cx_Sd n, Add (cx_MM s)] [∀ s : cx_Sd n, Inhabited (PLift (cx_MGl (cx_MM s)))] [∀ s : cx_Sd n, Inhabited (cx_Tord (cx_Ex n) (cx_MM s))] [Inhabited (PLift (cx_MMl n))] {s : cx_Sd n} {k : Fin n} {h h2 : cx_MM s → cx_S (cx_Ex n)} (hc : cx_comp (cx_E (cx_ee k) (cx_qq s k)) h = cx_comp h2 (cx_E (cx_ee k) (cx_qq s k))) : h2 = cx_cj (cx_ee k) (cx_qq s k) h := by
  unfold cx_cj
  rw [← cx_comp_assoc, hc, cx_comp_assoc, cx_E_add (cx_ee_nz k), show cx_qq s k + - cx_qq s k = 0 by grind, cx_E_zero (cx_ee_nz k), cx_comp_I]
theorem cx_mu_zero [Mul (cx_S Nat)] [One (cx_S Nat)] [Add (cx_S Nat)] [Zero (cx_S Nat)] [Inhabited (cx_Idx Nat)] [Inhabited (PLift cx_Natl)] {n : Nat} [Zero (cx_Ex n)] [Add (cx_Ex n)] [Mul (cx_S (cx_Ex n))] [One (cx_S (cx_Ex n))] [Add (cx_S (cx_Ex n))] [Zero (cx_S (cx_Ex n))] [Inhabited (cx_Idx (cx_Ex n))] [Inhabited (PLift (cx_Exl n))] [∀ s : cx_Sd n, Add (cx_MM s)] [∀ s : cx_Sd n, Inhabited (PLift (cx_MGl (cx_MM s)))] [∀ s : cx_Sd n, Inhabited (cx_Tord (cx_Ex n) (cx_MM s))] [Inhabited (PLift (cx_MMl n))] (s s2 : cx_Sd n) (k : Fin n) (ρ ρ2 : Fin n → Nat) (m : cx_MM s) (hm : m.v k = 0) : cx_mu s s2 k ρ m = cx_mu s s2 k ρ2 m := cx_MM.ext fun i => by
  by_cases hi : i = k
  · subst hi; rw [cx_mu_k, cx_mu_k]
  · rw [cx_mu_ne _ _ hi, cx_mu_ne _ _ hi, hm]; grind
noncomputable def cx_trS [Mul (cx_S Nat)] [One (cx_S Nat)] [Add (cx_S Nat)] [Zero (cx_S Nat)] [Inhabited (cx_Idx Nat)] [Inhabited (PLift cx_Natl)] {n : Nat} [Zero (cx_Ex n)] [Add (cx_Ex n)] [Mul (cx_S (cx_Ex n))] [One (cx_S (cx_Ex n))] [Add (cx_S (cx_Ex n))] [Zero (cx_S (cx_Ex n))] [Inhabited (cx_Idx (cx_Ex n))] [Inhabited (PLift (cx_Exl n))] [∀ s : cx_Sd n, Add (cx_MM s)] [∀ s : cx_Sd n, Inhabited (PLift (cx_MGl (cx_MM s)))] [∀ s : cx_Sd n, Inhabited (cx_Tord (cx_Ex n) (cx_MM s))] [Inhabited (PLift (cx_MMl n))] (s : cx_Sd n) (k : Fin n) (ρ : Fin n → Nat) (f : cx_MM s → cx_S (cx_Ex n)) : cx_MM (cx_turn s k) → cx_S (cx_Ex n) :=
  cx_tr (cx_Sv (cx_dl k) (cx_vv ρ k)) (cx_th ρ k) (cx_mu (cx_turn s k) s k ρ) f
theorem cx_trS_zero [Mul (cx_S Nat)] [One (cx_S Nat)] [Add (cx_S Nat)] [Zero (cx_S Nat)] [Inhabited (cx_Idx Nat)] [Inhabited (PLift cx_Natl)] {n : Nat} [Zero (cx_Ex n)] [Add (cx_Ex n)] [Mul (cx_S (cx_Ex n))] [One (cx_S (cx_Ex n))] [Add (cx_S (cx_Ex n))] [Zero (cx_S (cx_Ex n))] [Inhabited (cx_Idx (cx_Ex n))] [Inhabited (PLift (cx_Exl n))] [∀ s : cx_Sd n, Add (cx_MM s)] [∀ s : cx_Sd n, Inhabited (PLift (cx_MGl (cx_MM s)))] [∀ s : cx_Sd n, Inhabited (cx_Tord (cx_Ex n) (cx_MM s))] [Inhabited (PLift (cx_MMl n))] (s : cx_Sd n) (k : Fin n) (ρ : Fin n → Nat) (f : cx_MM s → cx_S (cx_Ex n)) (m : cx_MM (cx_turn s k)) : cx_trS s k ρ f m 0 = 1 := cx_tr_zero f m
theorem cx_trS_in [Mul (cx_S Nat)] [One (cx_S Nat)] [Add (cx_S Nat)] [Zero (cx_S Nat)] [Inhabited (cx_Idx Nat)] [Inhabited (PLift cx_Natl)] {n : Nat} [Zero (cx_Ex n)] [Add (cx_Ex n)] [Mul (cx_S (cx_Ex n))] [One (cx_S (cx_Ex n))] [Add (cx_S (cx_Ex n))] [Zero (cx_S (cx_Ex n))] [Inhabited (cx_Idx (cx_Ex n))] [Inhabited (PLift (cx_Exl n))] [∀ s : cx_Sd n, Add (cx_MM s)] [∀ s : cx_Sd n, Inhabited (PLift (cx_MGl (cx_MM s)))] [∀ s : cx_Sd n, Inhabited (cx_Tord (cx_Ex n) (cx_MM s))] [Inhabited (PLift (cx_MMl n))] {s : cx_Sd n} {k : Fin n} {ρ : Fin n → Nat} (h : cx_Rho s k ρ) (f : cx_MM s → cx_S (cx_Ex n)) (m : cx_MM (cx_turn s k)) {b : cx_Ex n} (hb : cx_Sv (cx_dl k) (cx_vv ρ k) b) :
    cx_trS s k ρ f m b = f (cx_mu (cx_turn s k) s k ρ m) (cx_th ρ k b) := cx_tr_in (cx_trn h) f m hb
theorem cx_trS_out [Mul (cx_S Nat)] [One (cx_S Nat)] [Add (cx_S Nat)] [Zero (cx_S Nat)] [Inhabited (cx_Idx Nat)] [Inhabited (PLift cx_Natl)] {n : Nat} [Zero (cx_Ex n)] [Add (cx_Ex n)] [Mul (cx_S (cx_Ex n))] [One (cx_S (cx_Ex n))] [Add (cx_S (cx_Ex n))] [Zero (cx_S (cx_Ex n))] [Inhabited (cx_Idx (cx_Ex n))] [Inhabited (PLift (cx_Exl n))] [∀ s : cx_Sd n, Add (cx_MM s)] [∀ s : cx_Sd n, Inhabited (PLift (cx_MGl (cx_MM s)))] [∀ s : cx_Sd n, Inhabited (cx_Tord (cx_Ex n) (cx_MM s))] [Inhabited (PLift (cx_MMl n))] {s : cx_Sd n} {k : Fin n} {ρ : Fin n → Nat} (f : cx_MM s → cx_S (cx_Ex n)) (m : cx_MM (cx_turn s k)) {b : cx_Ex n} (h0 : b ≠ 0) (hb : ¬ cx_Sv (cx_dl k) (cx_vv ρ k) b) : cx_trS s k ρ f m b = 0 := cx_tr_out f m h0 hb
theorem cx_tops [Mul (cx_S Nat)] [One (cx_S Nat)] [Add (cx_S Nat)] [Zero (cx_S Nat)] [Inhabited (cx_Idx Nat)] [Inhabited (PLift cx_Natl)] {n : Nat} [Zero (cx_Ex n)] [Add (cx_Ex n)] [Mul (cx_S (cx_Ex n))] [One (cx_S (cx_Ex n))] [Add (cx_S (cx_Ex n))] [Zero (cx_S (cx_Ex n))] [Inhabited (cx_Idx (cx_Ex n))] [Inhabited (PLift (cx_Exl n))] [∀ s : cx_Sd n, Add (cx_MM s)] [∀ s : cx_Sd n, Inhabited (PLift (cx_MGl (cx_MM s)))] [∀ s : cx_Sd n, Inhabited (cx_Tord (cx_Ex n) (cx_MM s))] [Inhabited (PLift (cx_MMl n))] (s : cx_Sd n) (k : Fin n) (b : cx_Ex n) : (cx_rw_ (cx_rp s k) b : Rat) = (cx_rw_ (cx_rm s k) b : Rat) + cx_pk s k b := by
  have := (cx_kd s k).v2e b
  rw [cx_qq_pr] at this
  unfold cx_vv at this
  unfold cx_pk
  grind
theorem cx_turn_cj [Mul (cx_S Nat)] [One (cx_S Nat)] [Add (cx_S Nat)] [Zero (cx_S Nat)] [Inhabited (cx_Idx Nat)] [Inhabited (PLift cx_Natl)] {n : Nat} [Zero (cx_Ex n)] [Add (cx_Ex n)] [Mul (cx_S (cx_Ex n))] [One (cx_S (cx_Ex n))] [Add (cx_S (cx_Ex n))] [Zero (cx_S (cx_Ex n))] [Inhabited (cx_Idx (cx_Ex n))] [Inhabited (PLift (cx_Exl n))] [∀ s : cx_Sd n, Add (cx_MM s)] [∀ s : cx_Sd n, Inhabited (PLift (cx_MGl (cx_MM s)))] [∀ s : cx_Sd n, Inhabited (cx_Tord (cx_Ex n) (cx_MM s))] [Inhabited (PLift (cx_MMl n))] {s : cx_Sd n} {k : Fin n} {h h2 : cx_MM s → cx_S (cx_Ex n)} (hp : cx_Pair (cx_ee k) (cx_qq s k) (cx_vv (cx_rm s k) k) (cx_vv (cx_rp s k) k) (cx_dl k) (cx_ZZ s) h h2) :
    cx_trS s k (cx_rm s k) h = cx_cj (cx_ee k) (cx_qq (cx_turn s k) k) (cx_trS s k (cx_rp s k) h2) := by
  classical
  have tm := cx_trn (cx_rho_m s k)
  have tp := cx_trn (cx_rho_p s k)
  have g1 : cx_Good (cx_trS s k (cx_rm s k) h) := cx_tr_good tm (cx_th_bnd _ k _) hp.gh hp.sh
  have g2 : cx_Good (cx_trS s k (cx_rp s k) h2) := cx_tr_good tp (cx_th_bnd _ k _) hp.gh2 hp.sh2
  have g3 := cx_cj_good (cx_ee_nz k) (cx_qq (cx_turn s k) k) g2
  have kd' := cx_kd (cx_turn s k) k
  refine cx_Good.test (T := fun b => 0 < cx_dl k b) g1 g3 ?_ ?_ (fun m => cx_pr (cx_ee k) m = 0) ?_ ?_
  · exact fun m b hb hn => cx_tr_sup h m b hb (fun hs => hn hs.1)
  · intro m b hb hn
    have hd : cx_dl k b = 0 := by have := kd'.dl0 b; grind
    obtain ⟨j, rfl⟩ := kd'.ray b hd
    have r0 : cx_Rqd (cx_ee k) (cx_deg (cx_nsm j (cx_ee k))) (cx_trS s k (cx_rp s k) h2) cx_I := by
      intro m i _
      by_cases h0 : cx_nsm i (cx_ee k) = 0
      · rw [h0, cx_trS_zero]; exact cx_one_zero.symm
      · rw [cx_trS_out h2 m h0 (fun hs => by have := hs.1; rw [kd'.fd.nsm, kd'.dlk, Rat.mul_zero] at this; grind)]
        exact (cx_one_ne h0).symm
    have h1 : cx_Rqd (cx_ee k) (cx_deg (cx_nsm j (cx_ee k))) (cx_cj (cx_ee k) (cx_qq (cx_turn s k) k) (cx_trS s k (cx_rp s k) h2)) (cx_comp (cx_E (cx_ee k) (cx_qq (cx_turn s k) k)) (cx_comp cx_I (cx_E (cx_ee k) (-cx_qq (cx_turn s k) k)))) :=
      cx_Rqd.comp kd' (fun _ _ _ => rfl) (cx_Rqd.comp kd' r0 (fun _ _ _ => rfl))
    rw [h1 m j (Nat.le_refl _), cx_I_comp, cx_E_add (cx_ee_nz k), show cx_qq (cx_turn s k) k + - cx_qq (cx_turn s k) k = 0 by grind, cx_E_zero (cx_ee_nz k)]
    exact cx_one_ne hb
  · intro a _ hd
    exact kd'.tst a (by grind)
  · intro m hm
    have hmk : m.v k = 0 := by
      have := cx_qq_pr (cx_turn s k) k m
      rw [hm, Rat.mul_zero] at this
      exact this.symm
    rw [cx_cj_test (cx_ee_nz k) _ _ hm]
    have hh2 := cx_cj_of_pair hp.cj
    let m0 : cx_MM s := cx_mu (cx_turn s k) s k (cx_rm s k) m
    have hm0 : m0.v k = 0 := by show (cx_mu (cx_turn s k) s k (cx_rm s k) m).v k = 0; rw [cx_mu_k, hmk]; grind
    have hm0p : cx_pr (cx_ee k) m0 = 0 := by rw [cx_pr_ee, hm0, Rat.mul_zero]
    have em : cx_mu (cx_turn s k) s k (cx_rp s k) m = m0 := cx_mu_zero _ _ k _ _ m hmk
    refine cx_S.ext (fun b => ?_)
    rw [cx_lin_row (cx_turn s k) k _ m hmk b]
    by_cases hd : 0 < cx_dl k b
    · let X : cx_S Nat := fun j => h m0 (cx_dn b k j)
      let Y : cx_S Nat := fun j => h2 m0 (cx_dn b k j)
      have nz : ∀ j, cx_dn b k j ≠ 0 := fun j e => by
        have := cx_dl_dn k b j
        rw [e, (cx_dl_fun k).zero] at this
        grind
      have hX : ∀ j, cx_rw_ (cx_rm s k) b < j → X j = 0 := fun j hj => hp.sh m0 _ (nz j) (fun hs => by
        have := ((cx_sv_iff _ k _).1 hs).2
        rw [cx_dn_k, cx_rw_dn (cx_rho_m s k).k0] at this
        omega)
      have hY : ∀ j, cx_rw_ (cx_rp s k) b < j → Y j = 0 := fun j hj => hp.sh2 m0 _ (nz j) (fun hs => by
        have := ((cx_sv_iff _ k _).1 hs).2
        rw [cx_dn_k, cx_rw_dn (cx_rho_p s k).k0] at this
        omega)
      have hXY : Y = X * cx_bs (cx_pk s k b) := by
        refine cx_S.ext (fun j => ?_)
        show h2 m0 (cx_dn b k j) = _
        have e1 : h2 m0 = cx_lin (cx_E (cx_ee k) (cx_qq s k)) m0 (h m0) := by
          have := congrFun hh2 m0
          rw [cx_cj_test (cx_ee_nz k) _ _ hm0p] at this
          exact this
        rw [e1, cx_lin_row s k _ m0 hm0, cx_pk_dn, cx_dn_k]
        have e2 : cx_row (h m0) (cx_dn b k j) k = X := funext fun i => by show h m0 (cx_dn (cx_dn b k j) k i) = _; rw [cx_dn_dn]
        rw [e2]
      have hri : cx_IsI (cx_pk s k b) := cx_ZZ_p s b k
      have main := cx_rev_main hri (cx_tops s k b) hX hY hXY
      have eH : cx_row (cx_trS s k (cx_rp s k) h2 m) b k = cx_rv (cx_rw_ (cx_rp s k) b) Y := by
        refine cx_S.ext (fun j => ?_)
        show cx_trS s k (cx_rp s k) h2 m (cx_dn b k j) = cx_rv (cx_rw_ (cx_rp s k) b) Y j
        unfold cx_rv
        by_cases hj : j ≤ cx_rw_ (cx_rp s k) b
        · rw [if_pos hj]
          have hs : cx_Sv (cx_dl k) (cx_vv (cx_rp s k) k) (cx_dn b k j) := (cx_sv_iff _ k _).2 ⟨by rw [cx_dl_dn]; exact hd, by rw [cx_dn_k, cx_rw_dn (cx_rho_p s k).k0]; exact hj⟩
          rw [cx_trS_in (cx_rho_p s k) h2 m hs, em]
          unfold cx_th
          rw [cx_rw_dn (cx_rho_p s k).k0, cx_dn_dn, cx_dn_k]
        · rw [if_neg hj]
          exact cx_trS_out h2 m (nz j) (fun hs => hj (by
            have := ((cx_sv_iff _ k _).1 hs).2
            rw [cx_dn_k, cx_rw_dn (cx_rho_p s k).k0] at this
            exact this))
      rw [eH, cx_pk_turn, main]
      unfold cx_rv
      by_cases hj : b k ≤ cx_rw_ (cx_rm s k) b
      · rw [if_pos hj, cx_trS_in (cx_rho_m s k) h m ((cx_sv_iff _ k _).2 ⟨hd, hj⟩)]
        rfl
      · rw [if_neg hj]
        exact cx_trS_out h m (fun e => by rw [e, (cx_dl_fun k).zero] at hd; grind) (fun hs => hj ((cx_sv_iff _ k _).1 hs).2)
    · have hd0 : cx_dl k b = 0 := by have := kd'.dl0 b; grind
      have hr : ∀ j, cx_dl k (cx_dn b k j) = 0 := fun j => by rw [cx_dl_dn]; exact hd0
      have out : ∀ (ρ : Fin n → Nat) (f : cx_MM s → cx_S (cx_Ex n)) (x : cx_Ex n), cx_dl k x = 0 → cx_trS s k ρ f m x = (1 : cx_S (cx_Ex n)) x := by
        intro ρ f x hx
        by_cases h0 : x = 0
        · rw [h0, cx_trS_zero, cx_one_zero]
        · rw [cx_one_ne h0]
          exact cx_trS_out f m h0 (fun hs => by have := hs.1; grind)
      rw [out _ _ b hd0]
      have e0 : cx_pk (cx_turn s k) k b = 0 := by
        obtain ⟨j, rfl⟩ := kd'.ray b hd0
        have e1 : cx_qq (cx_turn s k) k * cx_pr (cx_ee k) (cx_p (cx_nsm j (cx_ee k)) : cx_MM (cx_turn s k)) = cx_pk (cx_turn s k) k (cx_nsm j (cx_ee k)) := cx_qq_pr _ k _
        rw [← e1, cx_p_nsm, cx_pr_self]; grind
      rw [e0, cx_bs_zero, cx_mul1]
      show _ = cx_trS s k (cx_rp s k) h2 m (cx_dn b k (b k))
      rw [cx_dn_self, out _ _ b hd0]
theorem cx_zz_mu [Mul (cx_S Nat)] [One (cx_S Nat)] [Add (cx_S Nat)] [Zero (cx_S Nat)] [Inhabited (cx_Idx Nat)] [Inhabited (PLift cx_Natl)] {n : Nat} [Zero (cx_Ex n)] [Add (cx_Ex n)] [Mul (cx_S (cx_Ex n))] [One (cx_S (cx_Ex n))] [Add (cx_S (cx_Ex n))] [Zero (cx_S (cx_Ex n))] [Inhabited (cx_Idx (cx_Ex n))] [Inhabited (PLift (cx_Exl n))] [∀ s : cx_Sd n, Add (cx_MM s)] [∀ s : cx_Sd n, Inhabited (PLift (cx_MGl (cx_MM s)))] [∀ s : cx_Sd n, Inhabited (cx_Tord (cx_Ex n) (cx_MM s))] [Inhabited (PLift (cx_MMl n))] {s : cx_Sd n} {k : Fin n} {ρ : Fin n → Nat} (hc : ∀ i, cx_IsI (cx_cc s k ρ i)) (m : cx_MM (cx_turn s k)) (hm : cx_ZZ (cx_turn s k) m) : cx_ZZ s (cx_mu (cx_turn s k) s k ρ m) := fun i => by
  by_cases hi : i = k
  · subst hi
    rw [cx_mu_k]
    obtain ⟨z, hz⟩ := hm i
    exact ⟨-z, by rw [hz]; exact_mod_cast rfl⟩
  · rw [cx_mu_ne _ _ hi]
    exact (hm i).add ((hc i).mul (hm k))
theorem cx_cc_m [Mul (cx_S Nat)] [One (cx_S Nat)] [Add (cx_S Nat)] [Zero (cx_S Nat)] [Inhabited (cx_Idx Nat)] [Inhabited (PLift cx_Natl)] {n : Nat} [Zero (cx_Ex n)] [Add (cx_Ex n)] [Mul (cx_S (cx_Ex n))] [One (cx_S (cx_Ex n))] [Add (cx_S (cx_Ex n))] [Zero (cx_S (cx_Ex n))] [Inhabited (cx_Idx (cx_Ex n))] [Inhabited (PLift (cx_Exl n))] [∀ s : cx_Sd n, Add (cx_MM s)] [∀ s : cx_Sd n, Inhabited (PLift (cx_MGl (cx_MM s)))] [∀ s : cx_Sd n, Inhabited (cx_Tord (cx_Ex n) (cx_MM s))] [Inhabited (PLift (cx_MMl n))] (s : cx_Sd n) (k i : Fin n) : cx_IsI (cx_cc s k (cx_rm s k) i) := by
  unfold cx_cc; rw [cx_posR]; exact ⟨(cx_pos (s.b i k) : Int), by exact_mod_cast rfl⟩
theorem cx_cc_p [Mul (cx_S Nat)] [One (cx_S Nat)] [Add (cx_S Nat)] [Zero (cx_S Nat)] [Inhabited (cx_Idx Nat)] [Inhabited (PLift cx_Natl)] {n : Nat} [Zero (cx_Ex n)] [Add (cx_Ex n)] [Mul (cx_S (cx_Ex n))] [One (cx_S (cx_Ex n))] [Add (cx_S (cx_Ex n))] [Zero (cx_S (cx_Ex n))] [Inhabited (cx_Idx (cx_Ex n))] [Inhabited (PLift (cx_Exl n))] [∀ s : cx_Sd n, Add (cx_MM s)] [∀ s : cx_Sd n, Inhabited (PLift (cx_MGl (cx_MM s)))] [∀ s : cx_Sd n, Inhabited (cx_Tord (cx_Ex n) (cx_MM s))] [Inhabited (PLift (cx_MMl n))] (s : cx_Sd n) (k i : Fin n) : cx_IsI (cx_cc s k (cx_rp s k) i) := by
  unfold cx_cc; rw [cx_posR']; exact ⟨(cx_pos (- s.b i k) : Int), by exact_mod_cast rfl⟩
theorem cx_pair_turn [Mul (cx_S Nat)] [One (cx_S Nat)] [Add (cx_S Nat)] [Zero (cx_S Nat)] [Inhabited (cx_Idx Nat)] [Inhabited (PLift cx_Natl)] {n : Nat} [Zero (cx_Ex n)] [Add (cx_Ex n)] [Mul (cx_S (cx_Ex n))] [One (cx_S (cx_Ex n))] [Add (cx_S (cx_Ex n))] [Zero (cx_S (cx_Ex n))] [Inhabited (cx_Idx (cx_Ex n))] [Inhabited (PLift (cx_Exl n))] [∀ s : cx_Sd n, Add (cx_MM s)] [∀ s : cx_Sd n, Inhabited (PLift (cx_MGl (cx_MM s)))] [∀ s : cx_Sd n, Inhabited (cx_Tord (cx_Ex n) (cx_MM s))] [Inhabited (PLift (cx_MMl n))] {s : cx_Sd n} {k : Fin n} {h h2 : cx_MM s → cx_S (cx_Ex n)} (hp : cx_Pair (cx_ee k) (cx_qq s k) (cx_vv (cx_rm s k) k) (cx_vv (cx_rp s k) k) (cx_dl k) (cx_ZZ s) h h2) :
    cx_Pair (cx_ee k) (cx_qq (cx_turn s k) k) (cx_vv (cx_rm (cx_turn s k) k) k) (cx_vv (cx_rp (cx_turn s k) k) k) (cx_dl k) (cx_ZZ (cx_turn s k)) (cx_trS s k (cx_rp s k) h2) (cx_trS s k (cx_rm s k) h) := by
  have tm := cx_trn (cx_rho_m s k)
  have tp := cx_trn (cx_rho_p s k)
  rw [cx_rm_turn, cx_rp_turn]
  refine ⟨cx_tr_good tp (cx_th_bnd _ k _) hp.gh2 hp.sh2, cx_tr_good tm (cx_th_bnd _ k _) hp.gh hp.sh, cx_tr_sup _, cx_tr_sup _, ?_, ?_, ?_⟩
  · rw [cx_turn_cj hp]
    unfold cx_cj
    rw [cx_comp_assoc, cx_comp_assoc, cx_E_add (cx_ee_nz k), show - cx_qq (cx_turn s k) k + cx_qq (cx_turn s k) k = 0 by grind, cx_E_zero (cx_ee_nz k), cx_comp_I]
  · exact cx_tr_whole tp (cx_zz_mu (cx_cc_p s k)) hp.wh2
  · exact cx_tr_whole tm (cx_zz_mu (cx_cc_m s k)) hp.wh
end

section
def cx_Lin1 [Mul (cx_S Nat)] [One (cx_S Nat)] [Add (cx_S Nat)] [Zero (cx_S Nat)] [Inhabited (cx_Idx Nat)] [Inhabited (PLift cx_Natl)] {B : Type} [Zero B] [Add B] [Mul (cx_S B)] [One (cx_S B)] [Add (cx_S B)] [Zero (cx_S B)] [Inhabited (cx_Idx B)] (l : (B → Rat) → Rat) : Prop := ∀ (u v : B → Rat) (e : Rat), l (fun b => u b + e * v b) = l u + e * l v
theorem cx_gen_lin [Mul (cx_S Nat)] [One (cx_S Nat)] [Add (cx_S Nat)] [Zero (cx_S Nat)] [Inhabited (cx_Idx Nat)] [Inhabited (PLift cx_Natl)] {B : Type} [Zero B] [Add B] [Mul (cx_S B)] [One (cx_S B)] [Add (cx_S B)] [Zero (cx_S B)] [Inhabited (cx_Idx B)] (V : (B → Rat) → Prop) (hV : ∀ u v, V u → V v → ∀ e : Rat, V (fun b => u b + e * v b)) (h0 : ∃ v, V v)
    (L : List ((B → Rat) → Rat)) (hL : ∀ l ∈ L, cx_Lin1 l) : ∃ w, V w ∧ ∀ l ∈ L, (∃ v, V v ∧ l v ≠ 0) → l w ≠ 0 := by
  induction L with
  | nil => obtain ⟨v, hv⟩ := h0; exact ⟨v, hv, fun q hq => by simp at hq⟩
  | cons q L ih =>
    obtain ⟨v, hv, h1⟩ := ih (fun r hr => hL r (by simp [hr]))
    by_cases hq : ∃ v, V v ∧ q v ≠ 0
    · obtain ⟨v', hv', h2⟩ := hq
      obtain ⟨ε, hε, hs⟩ := cx_small ((q :: L).map fun l => (l v, l v'))
      have hs := hs ε hε (by grind)
      refine ⟨fun b => v b + ε * v' b, hV v v' hv hv' ε, fun r hr hex => ?_⟩
      rw [hL r hr]
      have hk := hs (r v, r v') (List.mem_map.2 ⟨r, hr, rfl⟩)
      simp only at hk
      by_cases hz : r v = 0
      · have hrq : r = q := by
          rcases List.mem_cons.1 hr with h | h
          · exact h
          · exact absurd hz (h1 r h hex)
        rw [hz, Rat.zero_add]
        intro h
        rcases Rat.mul_eq_zero.1 h with h | h
        · grind
        · rw [hrq] at h; exact h2 h
      · by_cases hp : 0 < r v
        · have := hk.1 hp; grind
        · have := hk.2 (by grind); grind
    · refine ⟨v, hv, fun r hr hex => ?_⟩
      rcases List.mem_cons.1 hr with h | h
      · subst h; exact absurd hex hq
      · exact h1 r h hex
theorem cx_gen_dir [Mul (cx_S Nat)] [One (cx_S Nat)] [Add (cx_S Nat)] [Zero (cx_S Nat)] [Inhabited (cx_Idx Nat)] [Inhabited (PLift cx_Natl)] {B : Type} [Zero B] [Add B] [Mul (cx_S B)] [One (cx_S B)] [Add (cx_S B)] [Zero (cx_S B)] [Inhabited (cx_Idx B)] (V : (B → Rat) → Prop) (hV : ∀ u v, V u → V v → ∀ e : Rat, V (fun b => u b + e * v b)) {T : B → Rat} (hT : V T)
    (L : List ((B → Rat) → Rat)) (hL : ∀ l ∈ L, cx_Lin1 l) {l0 : (B → Rat) → Rat} (hl0 : l0 ∈ L) (s : Rat) (hs : s = 1 ∨ s = -1) (h0 : 0 ≤ s * l0 T) (hne : ∃ v, V v ∧ l0 v ≠ 0) :
    ∃ t, V t ∧ (∀ l ∈ L, (0 < l T → 0 < l t) ∧ (l T < 0 → l t < 0) ∧ (l t = 0 → ∀ v, V v → l v = 0)) ∧ 0 < s * l0 t := by
  obtain ⟨v, hv, hgen⟩ := cx_gen_lin V hV ⟨T, hT⟩ L hL
  obtain ⟨w, hw, hwn, hwk⟩ : ∃ w, V w ∧ (∀ l ∈ L, (∃ v, V v ∧ l v ≠ 0) → l w ≠ 0) ∧ 0 < s * l0 w := by
    have hvk := hgen l0 hl0 hne
    by_cases h1 : 0 < s * l0 v
    · exact ⟨v, hv, hgen, h1⟩
    · have e : ∀ l ∈ L, l (fun b => v b + (-2) * v b) = - l v := fun l hl => by rw [hL l hl]; grind
      refine ⟨fun b => v b + (-2) * v b, hV v v hv hv (-2), fun l hl hex => by rw [e l hl]; have := hgen l hl hex; grind, ?_⟩
      rw [e l0 hl0]
      rcases hs with rfl | rfl <;> grind
  obtain ⟨ε, hε, hsm⟩ := cx_small (L.map fun l => (l T, l w))
  have hsm := hsm ε hε (by grind)
  refine ⟨fun b => T b + ε * w b, hV T w hT hw ε, fun l hl => ?_, ?_⟩
  · rw [hL l hl]
    have hk := hsm (l T, l w) (List.mem_map.2 ⟨l, hl, rfl⟩)
    simp only at hk
    refine ⟨hk.1, hk.2, fun hz v hv => ?_⟩
    refine Classical.byContradiction (fun hnz => ?_)
    have hlw := hwn l hl ⟨v, hv, hnz⟩
    by_cases h1 : 0 < l T
    · have := hk.1 h1; grind
    · by_cases h2 : l T < 0
      · have := hk.2 h2; grind
      · have h3 : l T = 0 := by grind
        rw [h3, Rat.zero_add] at hz
        rcases Rat.mul_eq_zero.1 hz with h | h
        · grind
        · exact hlw h
  · rw [hL l0 hl0]
    have := Rat.mul_pos hε hwk
    grind
noncomputable def cx_cf [Mul (cx_S Nat)] [One (cx_S Nat)] [Add (cx_S Nat)] [Zero (cx_S Nat)] [Inhabited (cx_Idx Nat)] [Inhabited (PLift cx_Natl)] {B : Type} [Zero B] [Add B] [Mul (cx_S B)] [One (cx_S B)] [Add (cx_S B)] [Zero (cx_S B)] [Inhabited (cx_Idx B)] (w : List (B × Rat)) (x : B) : Rat := cx_sm w (fun y => @ite _ (y.1 = x) (Classical.propDecidable _) y.2 0)
theorem cx_nf_ins [Mul (cx_S Nat)] [One (cx_S Nat)] [Add (cx_S Nat)] [Zero (cx_S Nat)] [Inhabited (cx_Idx Nat)] [Inhabited (PLift cx_Natl)] {B : Type} [Zero B] [Add B] [Mul (cx_S B)] [One (cx_S B)] [Add (cx_S B)] [Zero (cx_S B)] [Inhabited (cx_Idx B)] {M : Type} [Add M] [Inhabited (PLift (cx_MGl M))] [Inhabited (cx_Tord B M)] {ord : List B} (hn : ord.Nodup) (h0 : ∀ x ∈ ord, x ≠ 0) (hc : ∀ x ∈ ord, ∀ y ∈ ord, cx_pr x (cx_p y : M) = 0) {x : B} (hx : x ∈ ord) (c : Rat) (f : B → Rat) :
    (cx_comp (cx_E x c) (cx_nf ord f) : M → cx_S B) = cx_nf ord (fun y => (@ite _ (x = y) (Classical.propDecidable _) c 0) + f y) := by
  classical
  induction ord with
  | nil => simp at hx
  | cons z l ih =>
    rw [List.nodup_cons] at hn
    rw [cx_nf_cons, cx_nf_cons]
    by_cases hz : x = z
    · subst hz
      rw [← cx_comp_assoc, cx_E_add (h0 x (by simp)), if_pos rfl]
      congr 1
      exact cx_nf_congr (fun y hy => by rw [if_neg (fun e => hn.1 (by rw [e]; exact hy))]; grind)
    · have hxl : x ∈ l := by
        rcases List.mem_cons.1 hx with h | h
        · exact absurd h hz
        · exact h
      rw [← cx_comp_assoc, cx_E_comm (hc x (by simp [hxl]) z (by simp)), cx_comp_assoc, ih hn.2 (fun y hy => h0 y (by simp [hy])) (fun y hy w hw => hc y (by simp [hy]) w (by simp [hw])) hxl, if_neg hz, Rat.zero_add]
theorem cx_ev_cf [Mul (cx_S Nat)] [One (cx_S Nat)] [Add (cx_S Nat)] [Zero (cx_S Nat)] [Inhabited (cx_Idx Nat)] [Inhabited (PLift cx_Natl)] {B : Type} [Zero B] [Add B] [Mul (cx_S B)] [One (cx_S B)] [Add (cx_S B)] [Zero (cx_S B)] [Inhabited (cx_Idx B)] {M : Type} [Add M] [Inhabited (PLift (cx_MGl M))] [Inhabited (cx_Tord B M)] {ord : List B} (hn : ord.Nodup) (h0 : ∀ x ∈ ord, x ≠ 0) (hc : ∀ x ∈ ord, ∀ y ∈ ord, cx_pr x (cx_p y : M) = 0) {w : List (B × Rat)} (hw : ∀ y ∈ w, y.1 ∈ ord) :
    (cx_ev w : M → cx_S B) = cx_nf ord (cx_cf w) := by
  classical
  induction w with
  | nil =>
    have : (cx_nf ord (cx_cf []) : M → cx_S B) = cx_nf ord (fun _ => 0) := rfl
    rw [this, cx_nf_zero h0]; rfl
  | cons x w ih =>
    rw [cx_ev_cons, ih (fun y hy => hw y (by simp [hy])), cx_nf_ins hn h0 hc (hw x (by simp))]
    rfl
theorem cx_Fac.weak [Mul (cx_S Nat)] [One (cx_S Nat)] [Add (cx_S Nat)] [Zero (cx_S Nat)] [Inhabited (cx_Idx Nat)] [Inhabited (PLift cx_Natl)] {B : Type} [Zero B] [Add B] [Mul (cx_S B)] [One (cx_S B)] [Add (cx_S B)] [Zero (cx_S B)] [Inhabited (cx_Idx B)] {M : Type} [Add M] [Inhabited (PLift (cx_MGl M))] [Inhabited (cx_Tord B M)] {t : B → Rat} {T T' : B → Prop} (h : ∀ b, T b → T' b) {d : Nat} {g : M → cx_S B} {wp w0 wm : List (B × Rat)} (f : cx_Fac t T d g wp w0 wm) : cx_Fac t T' d g wp w0 wm :=
  ⟨f.pos.mono (fun _ x => ⟨h _ x.1, x.2⟩) (Nat.le_refl _), f.nul.mono (fun _ x => ⟨h _ x.1, x.2⟩) (Nat.le_refl _), f.neg.mono (fun _ x => ⟨h _ x.1, x.2⟩) (Nat.le_refl _), f.eq⟩
theorem cx_lam_cf [Mul (cx_S Nat)] [One (cx_S Nat)] [Add (cx_S Nat)] [Zero (cx_S Nat)] [Inhabited (cx_Idx Nat)] [Inhabited (PLift cx_Natl)] {B : Type} [Zero B] [Add B] [Mul (cx_S B)] [One (cx_S B)] [Add (cx_S B)] [Zero (cx_S B)] [Inhabited (cx_Idx B)] {M : Type} [Add M] [Inhabited (PLift (cx_MGl M))] [Inhabited (cx_Tord B M)] {a : B} (ha : a ≠ 0) {d : Nat} {t : B → Rat} (gt : cx_Gen (cx_Par a) d t) {g : M → cx_S B} {wp w0 wm : List (B × Rat)} (f : cx_Fac t cx_All d g wp w0 wm) : cx_Lam g a d t (cx_cf w0) := by
  obtain ⟨ord, hn, hm⟩ := cx_exists_list (B := B) d (cx_Par a)
  have hr : cx_Rl a d ord := ⟨hn, hm⟩
  refine ⟨ord, wp, wm, hr, f.word ⟨fun x hx => ?_⟩ ?_⟩
  · obtain ⟨y, hy, rfl⟩ := List.mem_map.1 hx
    have := (hm y).1 hy
    exact ⟨this.1, ⟨trivial, (gt.z y this.1 this.2.1).2 this.2.2⟩, this.2.1⟩
  · rw [cx_ev_cf hn (fun x hx => ((hm x).1 hx).1) (hr.comm (M := M) ha) (fun y hy => by
      have := f.nul.all y hy
      exact (hm y.1).2 ⟨this.1, this.2.2, (gt.z y.1 this.1 this.2.2).1 this.2.1.2⟩)]
    exact cx_Eqd.rfl'
theorem cx_cf_cut [Mul (cx_S Nat)] [One (cx_S Nat)] [Add (cx_S Nat)] [Zero (cx_S Nat)] [Inhabited (cx_Idx Nat)] [Inhabited (PLift cx_Natl)] {B : Type} [Zero B] [Add B] [Mul (cx_S B)] [One (cx_S B)] [Add (cx_S B)] [Zero (cx_S B)] [Inhabited (cx_Idx B)] {d : Nat} {a : B} (ha : cx_deg a ≤ d) (w : List (B × Rat)) : cx_cf (cx_cut d w) a = cx_cf w a := by
  classical
  unfold cx_cf cx_cut
  symm
  refine cx_sm_filter w _ _ (fun y _ hy => ?_)
  have : ¬ cx_deg y.1 ≤ d := by simpa using hy
  rw [if_neg (fun e => this (by rw [e]; exact ha))]
theorem cx_lam_left [Mul (cx_S Nat)] [One (cx_S Nat)] [Add (cx_S Nat)] [Zero (cx_S Nat)] [Inhabited (cx_Idx Nat)] [Inhabited (PLift cx_Natl)] {B : Type} [Zero B] [Add B] [Mul (cx_S B)] [One (cx_S B)] [Add (cx_S B)] [Zero (cx_S B)] [Inhabited (cx_Idx B)] {M : Type} [Add M] [Inhabited (PLift (cx_MGl M))] [Inhabited (cx_Tord B M)] {k : B} (hk : k ≠ 0) {q : Rat} {h : M → cx_S B} {a : B} {d : Nat} (hd : cx_deg k ≤ d) {t f : B → Rat} (htk : 0 < t k) (l : cx_Lam h a d t f) : cx_Lam (cx_comp (cx_E k q) h) a d t f := by
  obtain ⟨ord, wp, wm, hr, hf⟩ := l
  refine ⟨ord, (k, q) :: wp, wm, hr, ⟨⟨fun x hx => ?_⟩, hf.nul, hf.neg, ?_⟩⟩
  · rcases List.mem_cons.1 hx with rfl | hx
    · exact ⟨hk, ⟨trivial, htk⟩, hd⟩
    · exact hf.pos.all x hx
  · rw [cx_ev_cons, cx_comp_assoc]; exact cx_Eqd.comp cx_Eqd.rfl' hf.eq
theorem cx_lam_right [Mul (cx_S Nat)] [One (cx_S Nat)] [Add (cx_S Nat)] [Zero (cx_S Nat)] [Inhabited (cx_Idx Nat)] [Inhabited (PLift cx_Natl)] {B : Type} [Zero B] [Add B] [Mul (cx_S B)] [One (cx_S B)] [Add (cx_S B)] [Zero (cx_S B)] [Inhabited (cx_Idx B)] {M : Type} [Add M] [Inhabited (PLift (cx_MGl M))] [Inhabited (cx_Tord B M)] {k : B} (hk : k ≠ 0) {q : Rat} {h : M → cx_S B} {a : B} {d : Nat} (hd : cx_deg k ≤ d) {t f : B → Rat} (htk : t k < 0) (l : cx_Lam h a d t f) : cx_Lam (cx_comp h (cx_E k q)) a d t f := by
  obtain ⟨ord, wp, wm, hr, hf⟩ := l
  refine ⟨ord, wp, wm ++ [(k, q)], hr, ⟨hf.pos, hf.nul, ⟨fun x hx => ?_⟩, ?_⟩⟩
  · rcases List.mem_append.1 hx with hx | hx
    · exact hf.neg.all x hx
    · have : x = (k, q) := by simpa using hx
      subst this
      exact ⟨hk, ⟨trivial, htk⟩, hd⟩
  · rw [cx_ev_append, cx_ev_one, ← cx_comp_assoc, ← cx_comp_assoc, cx_comp_assoc (cx_ev wp)]; exact cx_Eqd.comp hf.eq cx_Eqd.rfl'
def cx_pull [Mul (cx_S Nat)] [One (cx_S Nat)] [Add (cx_S Nat)] [Zero (cx_S Nat)] [Inhabited (cx_Idx Nat)] [Inhabited (PLift cx_Natl)] {n : Nat} [Zero (cx_Ex n)] [Add (cx_Ex n)] [Mul (cx_S (cx_Ex n))] [One (cx_S (cx_Ex n))] [Add (cx_S (cx_Ex n))] [Zero (cx_S (cx_Ex n))] [Inhabited (cx_Idx (cx_Ex n))] [Inhabited (PLift (cx_Exl n))] [∀ s : cx_Sd n, Add (cx_MM s)] [∀ s : cx_Sd n, Inhabited (PLift (cx_MGl (cx_MM s)))] [∀ s : cx_Sd n, Inhabited (cx_Tord (cx_Ex n) (cx_MM s))] [Inhabited (PLift (cx_MMl n))] (ρ : Fin n → Nat) (k : Fin n) (t : cx_Ex n → Rat) : cx_Ex n → Rat := cx_dt (fun i => if i = k then - t (cx_ee k) else t (cx_ee i) + (ρ i : Rat) * t (cx_ee k))
theorem cx_pull_fun [Mul (cx_S Nat)] [One (cx_S Nat)] [Add (cx_S Nat)] [Zero (cx_S Nat)] [Inhabited (cx_Idx Nat)] [Inhabited (PLift cx_Natl)] {n : Nat} [Zero (cx_Ex n)] [Add (cx_Ex n)] [Mul (cx_S (cx_Ex n))] [One (cx_S (cx_Ex n))] [Add (cx_S (cx_Ex n))] [Zero (cx_S (cx_Ex n))] [Inhabited (cx_Idx (cx_Ex n))] [Inhabited (PLift (cx_Exl n))] [∀ s : cx_Sd n, Add (cx_MM s)] [∀ s : cx_Sd n, Inhabited (PLift (cx_MGl (cx_MM s)))] [∀ s : cx_Sd n, Inhabited (cx_Tord (cx_Ex n) (cx_MM s))] [Inhabited (PLift (cx_MMl n))] (ρ : Fin n → Nat) (k : Fin n) (t : cx_Ex n → Rat) : cx_Fun (cx_pull ρ k t) := cx_dt_fun _
theorem cx_pull_k [Mul (cx_S Nat)] [One (cx_S Nat)] [Add (cx_S Nat)] [Zero (cx_S Nat)] [Inhabited (cx_Idx Nat)] [Inhabited (PLift cx_Natl)] {n : Nat} [Zero (cx_Ex n)] [Add (cx_Ex n)] [Mul (cx_S (cx_Ex n))] [One (cx_S (cx_Ex n))] [Add (cx_S (cx_Ex n))] [Zero (cx_S (cx_Ex n))] [Inhabited (cx_Idx (cx_Ex n))] [Inhabited (PLift (cx_Exl n))] [∀ s : cx_Sd n, Add (cx_MM s)] [∀ s : cx_Sd n, Inhabited (PLift (cx_MGl (cx_MM s)))] [∀ s : cx_Sd n, Inhabited (cx_Tord (cx_Ex n) (cx_MM s))] [Inhabited (PLift (cx_MMl n))] (ρ : Fin n → Nat) (k : Fin n) (t : cx_Ex n → Rat) : cx_pull ρ k t (cx_ee k) = - t (cx_ee k) := by unfold cx_pull; rw [cx_dt_ee, if_pos rfl]
theorem cx_pull_ne [Mul (cx_S Nat)] [One (cx_S Nat)] [Add (cx_S Nat)] [Zero (cx_S Nat)] [Inhabited (cx_Idx Nat)] [Inhabited (PLift cx_Natl)] {n : Nat} [Zero (cx_Ex n)] [Add (cx_Ex n)] [Mul (cx_S (cx_Ex n))] [One (cx_S (cx_Ex n))] [Add (cx_S (cx_Ex n))] [Zero (cx_S (cx_Ex n))] [Inhabited (cx_Idx (cx_Ex n))] [Inhabited (PLift (cx_Exl n))] [∀ s : cx_Sd n, Add (cx_MM s)] [∀ s : cx_Sd n, Inhabited (PLift (cx_MGl (cx_MM s)))] [∀ s : cx_Sd n, Inhabited (cx_Tord (cx_Ex n) (cx_MM s))] [Inhabited (PLift (cx_MMl n))] (ρ : Fin n → Nat) {k i : Fin n} (h : i ≠ k) (t : cx_Ex n → Rat) : cx_pull ρ k t (cx_ee i) = t (cx_ee i) + (ρ i : Rat) * t (cx_ee k) := by unfold cx_pull; rw [cx_dt_ee, if_neg h]
theorem cx_dt_congr [Mul (cx_S Nat)] [One (cx_S Nat)] [Add (cx_S Nat)] [Zero (cx_S Nat)] [Inhabited (cx_Idx Nat)] [Inhabited (PLift cx_Natl)] {n : Nat} [Zero (cx_Ex n)] [Add (cx_Ex n)] [Mul (cx_S (cx_Ex n))] [One (cx_S (cx_Ex n))] [Add (cx_S (cx_Ex n))] [Zero (cx_S (cx_Ex n))] [Inhabited (cx_Idx (cx_Ex n))] [Inhabited (PLift (cx_Exl n))] [∀ s : cx_Sd n, Add (cx_MM s)] [∀ s : cx_Sd n, Inhabited (PLift (cx_MGl (cx_MM s)))] [∀ s : cx_Sd n, Inhabited (cx_Tord (cx_Ex n) (cx_MM s))] [Inhabited (PLift (cx_MMl n))] {τ τ' : Fin n → Rat} (h : ∀ i, τ i = τ' i) (b : cx_Ex n) : cx_dt τ b = cx_dt τ' b := by
  unfold cx_dt; exact cx_sm_congr (fun i _ => by rw [h i])
theorem cx_pull_pull [Mul (cx_S Nat)] [One (cx_S Nat)] [Add (cx_S Nat)] [Zero (cx_S Nat)] [Inhabited (cx_Idx Nat)] [Inhabited (PLift cx_Natl)] {n : Nat} [Zero (cx_Ex n)] [Add (cx_Ex n)] [Mul (cx_S (cx_Ex n))] [One (cx_S (cx_Ex n))] [Add (cx_S (cx_Ex n))] [Zero (cx_S (cx_Ex n))] [Inhabited (cx_Idx (cx_Ex n))] [Inhabited (PLift (cx_Exl n))] [∀ s : cx_Sd n, Add (cx_MM s)] [∀ s : cx_Sd n, Inhabited (PLift (cx_MGl (cx_MM s)))] [∀ s : cx_Sd n, Inhabited (cx_Tord (cx_Ex n) (cx_MM s))] [Inhabited (PLift (cx_MMl n))] (ρ : Fin n → Nat) (k : Fin n) {t : cx_Ex n → Rat} (ht : cx_Fun t) (b : cx_Ex n) : cx_pull ρ k (cx_pull ρ k t) b = t b := by
  rw [cx_fun_dt ht b]
  show cx_dt _ b = _
  refine cx_dt_congr (fun i => ?_) b
  by_cases hi : i = k
  · subst hi; rw [if_pos rfl, cx_pull_k]; grind
  · rw [if_neg hi, cx_pull_ne ρ hi, cx_pull_k]; grind
theorem cx_pull_lin [Mul (cx_S Nat)] [One (cx_S Nat)] [Add (cx_S Nat)] [Zero (cx_S Nat)] [Inhabited (cx_Idx Nat)] [Inhabited (PLift cx_Natl)] {n : Nat} [Zero (cx_Ex n)] [Add (cx_Ex n)] [Mul (cx_S (cx_Ex n))] [One (cx_S (cx_Ex n))] [Add (cx_S (cx_Ex n))] [Zero (cx_S (cx_Ex n))] [Inhabited (cx_Idx (cx_Ex n))] [Inhabited (PLift (cx_Exl n))] [∀ s : cx_Sd n, Add (cx_MM s)] [∀ s : cx_Sd n, Inhabited (PLift (cx_MGl (cx_MM s)))] [∀ s : cx_Sd n, Inhabited (cx_Tord (cx_Ex n) (cx_MM s))] [Inhabited (PLift (cx_MMl n))] (ρ : Fin n → Nat) (k : Fin n) (b : cx_Ex n) : cx_Lin1 (fun t => cx_pull ρ k t b) := by
  intro u v e
  show cx_dt _ b = cx_dt _ b + e * cx_dt _ b
  unfold cx_dt
  rw [← cx_sm_mulL, ← cx_sm_add]
  refine cx_sm_congr (fun i _ => ?_)
  dsimp only
  by_cases hi : i = k
  · rw [if_pos hi, if_pos hi, if_pos hi]; grind
  · rw [if_neg hi, if_neg hi, if_neg hi]; grind
theorem cx_pull_on [Mul (cx_S Nat)] [One (cx_S Nat)] [Add (cx_S Nat)] [Zero (cx_S Nat)] [Inhabited (cx_Idx Nat)] [Inhabited (PLift cx_Natl)] {n : Nat} [Zero (cx_Ex n)] [Add (cx_Ex n)] [Mul (cx_S (cx_Ex n))] [One (cx_S (cx_Ex n))] [Add (cx_S (cx_Ex n))] [Zero (cx_S (cx_Ex n))] [Inhabited (cx_Idx (cx_Ex n))] [Inhabited (PLift (cx_Exl n))] [∀ s : cx_Sd n, Add (cx_MM s)] [∀ s : cx_Sd n, Inhabited (PLift (cx_MGl (cx_MM s)))] [∀ s : cx_Sd n, Inhabited (cx_Tord (cx_Ex n) (cx_MM s))] [Inhabited (PLift (cx_MMl n))] {ρ : Fin n → Nat} {k : Fin n} (hk : ρ k = 0) {t : cx_Ex n → Rat} (ht : cx_Fun t) {b : cx_Ex n} (hb : b k ≤ cx_rw_ ρ b) : t (cx_th ρ k b) = cx_pull ρ k t b := by
  rw [cx_fun_dt ht (cx_th ρ k b)]
  unfold cx_pull cx_dt
  have e0 : ((cx_th ρ k b) k : Rat) = (cx_rw_ ρ b : Rat) - (b k : Rat) := by
    unfold cx_th; rw [cx_dn_k]
    have : ((cx_rw_ ρ b - b k + b k : Nat) : Rat) = (cx_rw_ ρ b : Rat) := by rw [Nat.sub_add_cancel hb]
    rw [cx_castR] at this
    grind
  rw [cx_fr_split k, cx_fr_split k (fun i => (if i = k then - t (cx_ee k) else t (cx_ee i) + (ρ i : Rat) * t (cx_ee k)) * (b i : Rat)), e0, if_pos rfl, cx_rw_cast]
  have : cx_sm (cx_fr n) (fun i => if i = k then 0 else (if i = k then - t (cx_ee k) else t (cx_ee i) + (ρ i : Rat) * t (cx_ee k)) * (b i : Rat))
      = cx_sm (cx_fr n) (fun i => if i = k then 0 else t (cx_ee i) * (cx_th ρ k b i : Rat)) + cx_sm (cx_fr n) (fun i => (ρ i : Rat) * (b i : Rat)) * t (cx_ee k) := by
    rw [← cx_sm_mulR, ← cx_sm_add]
    refine cx_sm_congr (fun i _ => ?_)
    by_cases hi : i = k
    · subst hi; rw [if_pos rfl, if_pos rfl, hk, show ((0 : Nat) : Rat) = 0 from rfl]; grind
    · rw [if_neg hi, if_neg hi, if_neg hi]
      have e2 : cx_th ρ k b i = b i := cx_dn_ne _ _ hi
      rw [e2]; grind
  rw [this]; grind
theorem cx_pull_pr [Mul (cx_S Nat)] [One (cx_S Nat)] [Add (cx_S Nat)] [Zero (cx_S Nat)] [Inhabited (cx_Idx Nat)] [Inhabited (PLift cx_Natl)] {n : Nat} [Zero (cx_Ex n)] [Add (cx_Ex n)] [Mul (cx_S (cx_Ex n))] [One (cx_S (cx_Ex n))] [Add (cx_S (cx_Ex n))] [Zero (cx_S (cx_Ex n))] [Inhabited (cx_Idx (cx_Ex n))] [Inhabited (PLift (cx_Exl n))] [∀ s : cx_Sd n, Add (cx_MM s)] [∀ s : cx_Sd n, Inhabited (PLift (cx_MGl (cx_MM s)))] [∀ s : cx_Sd n, Inhabited (cx_Tord (cx_Ex n) (cx_MM s))] [Inhabited (PLift (cx_MMl n))] {s : cx_Sd n} {k : Fin n} {ρ : Fin n → Nat} (m : cx_MM s) (b : cx_Ex n) : cx_pull ρ k (fun x => cx_pr x (cx_mu s (cx_turn s k) k ρ m)) b = cx_pr b m := by
  rw [cx_fun_dt (cx_fun_pr m) b]
  show cx_dt _ b = _
  refine cx_dt_congr (fun i => ?_) b
  by_cases hi : i = k
  · subst hi; rw [if_pos rfl]; dsimp only; rw [cx_pr_ee, cx_pr_ee, cx_mu_k, cx_turn_d]; grind
  · rw [if_neg hi]; dsimp only; rw [cx_pr_ee, cx_pr_ee, cx_pr_ee, cx_mu_k, cx_mu_ne _ _ hi, cx_turn_d]
    have := cx_cc_d s k ρ i
    grind
theorem cx_cmp_of [Mul (cx_S Nat)] [One (cx_S Nat)] [Add (cx_S Nat)] [Zero (cx_S Nat)] [Inhabited (cx_Idx Nat)] [Inhabited (PLift cx_Natl)]  {B : Type} [Zero B] [Add B] [Mul (cx_S B)] [One (cx_S B)] [Add (cx_S B)] [Zero (cx_S B)] [Inhabited (cx_Idx B)] {T t : B → Rat} {b : B} (h1 : 0 < T b → 0 < t b) (h2 : T b < 0 → t b < 0) : 0 ≤ t b * T b := by
  by_cases h : 0 < T b
  · have := Rat.mul_pos (h1 h) h; grind
  · by_cases h' : T b < 0
    · have h3 := h2 h'
      have := Rat.mul_pos (by grind : 0 < - t b) (by grind : 0 < - T b); grind
    · have : T b = 0 := by grind
      rw [this]; grind
theorem cx_side [Mul (cx_S Nat)] [One (cx_S Nat)] [Add (cx_S Nat)] [Zero (cx_S Nat)] [Inhabited (cx_Idx Nat)] [Inhabited (PLift cx_Natl)] {n : Nat} [Zero (cx_Ex n)] [Add (cx_Ex n)] [Mul (cx_S (cx_Ex n))] [One (cx_S (cx_Ex n))] [Add (cx_S (cx_Ex n))] [Zero (cx_S (cx_Ex n))] [Inhabited (cx_Idx (cx_Ex n))] [Inhabited (PLift (cx_Exl n))] [∀ s : cx_Sd n, Add (cx_MM s)] [∀ s : cx_Sd n, Inhabited (PLift (cx_MGl (cx_MM s)))] [∀ s : cx_Sd n, Inhabited (cx_Tord (cx_Ex n) (cx_MM s))] [Inhabited (PLift (cx_MMl n))] {s : cx_Sd n} {k : Fin n} {ρ : Fin n → Nat} (hρ : cx_Rho s k ρ) {F : cx_MM s → cx_S (cx_Ex n)} (gF : cx_Good F) (sF : cx_Sup (cx_Sv (cx_dl k) (cx_vv ρ k)) F)
    {a : cx_Ex n} (ha : cx_Sv (cx_dl k) (cx_vv ρ k) a) (σ : Rat) (hσ : σ = 1 ∨ σ = -1) (hs : 0 ≤ σ * cx_pr (cx_ee k) (cx_p a : cx_MM (cx_turn s k))) :
    ∃ t t2 f f2, cx_Gen (cx_Par a) (cx_deg a) t ∧ cx_Cmp (cx_MM (cx_turn s k)) a t ∧ 0 < σ * t (cx_ee k) ∧ cx_Gen (cx_Par (cx_th ρ k a)) (cx_deg (cx_th ρ k a)) t2 ∧ cx_Cmp (cx_MM s) (cx_th ρ k a) t2 ∧ t2 (cx_ee k) = - t (cx_ee k) ∧
      cx_Lam (cx_trS s k ρ F) a (cx_deg a) t f ∧ cx_Lam F (cx_th ρ k a) (cx_deg (cx_th ρ k a)) t2 f2 ∧ f a = f2 (cx_th ρ k a) := by
  classical
  have T0 := cx_trn hρ
  let a0 := cx_th ρ k a
  have ha0 : cx_Sv (cx_dl k) (cx_vv ρ k) a0 := T0.to a ha
  have hanz := T0.nz a ha
  have ha0nz := T0.nz a0 ha0
  have hb := ((cx_sv_iff ρ k a).1 ha).2
  have hb0 := ((cx_sv_iff ρ k a0).1 ha0).2
  have hback : cx_th ρ k a0 = a := T0.l a ha
  let T : cx_Ex n → Rat := cx_Ta (cx_MM (cx_turn s k)) a
  have hTv : cx_Van (cx_Par a) T := cx_Ta_van hanz
  have epa : (cx_p a : cx_MM (cx_turn s k)) = cx_mu s (cx_turn s k) k ρ (cx_p a0) := by
    have h1 := T0.p_ a0 (cx_neg (B := cx_Ex n) (cx_p a0)) ha0
    rw [hback] at h1
    refine cx_MM.ext fun i => ?_
    have h2 := congrArg (fun m => m.v i) h1
    simp only [cx_mm_add] at h2
    by_cases hi : i = k
    · subst hi
      rw [cx_mu_k, cx_mu_k] at h2
      rw [cx_mu_k]
      have h3 : (cx_neg (B := cx_Ex n) (cx_p a0 : cx_MM s)).v i = - (cx_p a0 : cx_MM s).v i := ((default : PLift (cx_MMl n)).down s).2.2.2 _ _
      rw [cx_mm_add, h3] at h2
      grind
    · rw [cx_mu_ne _ _ hi, cx_mu_ne _ _ hi] at h2
      rw [cx_mu_ne _ _ hi]
      have h3 : ∀ j, (cx_neg (B := cx_Ex n) (cx_p a0 : cx_MM s)).v j = - (cx_p a0 : cx_MM s).v j := fun j => ((default : PLift (cx_MMl n)).down s).2.2.2 _ _
      rw [cx_mm_add, cx_mm_add, h3, h3] at h2
      grind
  have hpT : ∀ b, cx_pull ρ k T b = cx_Ta (cx_MM s) a0 b := by
    intro b
    have : T = fun x => cx_pr x (cx_mu s (cx_turn s k) k ρ (cx_p a0)) := by
      funext x
      show cx_pr x (cx_p a : cx_MM (cx_turn s k)) = _
      rw [epa]
    rw [this, cx_pull_pr]; rfl
  have hnpk : ∃ v, cx_Van (cx_Par a) v ∧ v (cx_ee k) ≠ 0 := by
    have hd := ha.1
    refine ⟨fun b => cx_dl k a * cx_dg b + (- cx_dg a) * cx_dl k b, cx_Van.par hanz (cx_fun_dg.lin (cx_dl_fun k) _ _) (by show cx_dl k a * cx_dg a + (- cx_dg a) * cx_dl k a = 0; grind), ?_⟩
    show cx_dl k a * cx_dg (cx_ee k) + (- cx_dg a) * cx_dl k (cx_ee k) ≠ 0
    rw [(cx_kd s k).dlk]
    have h1 := cx_dg_pos (cx_ee_nz k)
    have := Rat.mul_pos hd h1
    grind
  let L1 : List ((cx_Ex n → Rat) → Rat) := (cx_lst (cx_deg a)).map fun b => fun t => t b
  let L2 : List ((cx_Ex n → Rat) → Rat) := (cx_lst (cx_deg a0)).map fun b => fun t => cx_pull ρ k t b
  let l0 : (cx_Ex n → Rat) → Rat := fun t => t (cx_ee k)
  obtain ⟨t, vt, hall, htk⟩ := cx_gen_dir (cx_Van (cx_Par a)) (fun u v hu hv e => ⟨hu.1.plus hv.1 e, fun a ha => by show u a + e * v a = 0; rw [hu.2 a ha, hv.2 a ha]; grind⟩) hTv
    (l0 :: (L1 ++ L2)) (by
    intro l hl
    rcases List.mem_cons.1 hl with rfl | hl
    · intro u v e; rfl
    · rcases List.mem_append.1 hl with hl | hl
      · obtain ⟨b, _, rfl⟩ := List.mem_map.1 hl; intro u v e; rfl
      · obtain ⟨b, _, rfl⟩ := List.mem_map.1 hl; exact cx_pull_lin ρ k b) (l0 := l0) (by simp) σ hσ hs hnpk
  have h1 : ∀ b, cx_deg b ≤ cx_deg a → (0 < T b → 0 < t b) ∧ (T b < 0 → t b < 0) ∧ (t b = 0 → ∀ v, cx_Van (cx_Par a) v → v b = 0) := fun b hb =>
    hall (fun t => t b) (by simp only [List.mem_cons, List.mem_append]; exact .inr (.inl (List.mem_map.2 ⟨b, (cx_mem_lst _ b).2 hb, rfl⟩)))
  have h2 : ∀ b, cx_deg b ≤ cx_deg a0 → (0 < cx_Ta (cx_MM s) a0 b → 0 < cx_pull ρ k t b) ∧ (cx_Ta (cx_MM s) a0 b < 0 → cx_pull ρ k t b < 0) ∧ (cx_pull ρ k t b = 0 → ∀ v, cx_Van (cx_Par a) v → cx_pull ρ k v b = 0) := fun b hb => by
    have := hall (fun t => cx_pull ρ k t b) (by simp only [List.mem_cons, List.mem_append]; exact .inr (.inr (List.mem_map.2 ⟨b, (cx_mem_lst _ b).2 hb, rfl⟩)))
    rw [hpT] at this
    exact this
  have par_of : ∀ {x b : cx_Ex n}, x ≠ 0 → (∀ v : cx_Ex n → Rat, cx_Fun v → v x = 0 → v b = 0) → cx_Par x b := by
    intro x b hx h v hv
    have := h (fun y => cx_dg x * v y + (- v x) * cx_dg y) (hv.lin cx_fun_dg _ _) (by show cx_dg x * v x + (- v x) * cx_dg x = 0; grind)
    grind
  let t2 := cx_pull ρ k t
  have ft2 : cx_Fun t2 := cx_pull_fun ρ k t
  have t2a0 : t2 a0 = 0 := by
    show cx_pull ρ k t a0 = 0
    rw [← cx_pull_on hρ.k0 vt.1 hb0, hback]
    exact vt.2 a (cx_Par.refl a)
  have g1 : cx_Gen (cx_Par a) (cx_deg a) t := ⟨vt.1, fun b hb hd => ⟨fun h0 => par_of hanz (fun v hv hva => (h1 b hd).2.2 h0 v (cx_Van.par hanz hv hva)), fun hp => vt.2 b hp⟩⟩
  have g2 : cx_Gen (cx_Par a0) (cx_deg a0) t2 := ⟨ft2, fun b _ hd => ⟨fun h0 => par_of ha0nz (fun v hv hva => by
    have h3 := (h2 b hd).2.2 h0 (cx_pull ρ k v) (cx_Van.par hanz (cx_pull_fun ρ k v) (by rw [← cx_pull_on hρ.k0 hv hb]; exact hva))
    rw [cx_pull_pull ρ k hv] at h3
    exact h3), fun hp => hp.zero ha0nz ft2 t2a0⟩⟩
  have c1 : cx_Cmp (cx_MM (cx_turn s k)) a t := fun b hb => cx_cmp_of (T := T) (h1 b hb).1 (h1 b hb).2.1
  have c2 : cx_Cmp (cx_MM s) a0 t2 := fun b hb => cx_cmp_of (T := cx_Ta (cx_MM s) a0) (h2 b hb).1 (h2 b hb).2.1

  obtain ⟨d1, hd1⟩ := cx_th_bnd ρ k (cx_Sv (cx_dl k) (cx_vv ρ k)) (cx_deg a)
  let D0 := max d1 (cx_deg a0)
  obtain ⟨wp, w0, wm, hf, _⟩ := cx_Fac.exists (t := t2) T0.c (Z := fun _ => False) (fun _ _ h _ => h) gF sF (fun _ _ h => h.elim) D0
  have hfT := cx_tr_fac T0 (d' := cx_deg a) (fun b hb hd => Nat.le_trans (hd1 b hb hd) (Nat.le_max_left _ _)) (t' := t) (fun b hb => cx_pull_on hρ.k0 vt.1 ((cx_sv_iff ρ k b).1 hb).2) hf
  have l1 := cx_lam_cf hanz g1 (hfT.weak (fun _ _ => trivial))
  have l2 := cx_lam_cf ha0nz g2 ((hf.cut (Nat.le_max_right d1 (cx_deg a0))).weak (fun _ _ => trivial))
  refine ⟨t, t2, _, _, g1, c1, htk, g2, c2, cx_pull_k ρ k t, l1, l2, ?_⟩
  rw [cx_cf_cut (Nat.le_refl _), cx_cf_cut (Nat.le_refl _)]
  unfold cx_cf cx_mapw
  rw [cx_sm_map]
  refine cx_sm_congr (fun x hx => ?_)
  have hxS := (hf.nul.all x hx).2.1.1
  by_cases he : cx_th ρ k x.1 = a
  · rw [if_pos he, if_pos (by show x.1 = cx_th ρ k a; rw [← he]; exact (T0.l x.1 hxS).symm)]
  · rw [if_neg he, if_neg (fun e : x.1 = cx_th ρ k a => he (by rw [e]; exact hback))]
theorem cx_sd_turn [Mul (cx_S Nat)] [One (cx_S Nat)] [Add (cx_S Nat)] [Zero (cx_S Nat)] [Inhabited (cx_Idx Nat)] [Inhabited (PLift cx_Natl)] {n : Nat} [Zero (cx_Ex n)] [Add (cx_Ex n)] [Mul (cx_S (cx_Ex n))] [One (cx_S (cx_Ex n))] [Add (cx_S (cx_Ex n))] [Zero (cx_S (cx_Ex n))] [Inhabited (cx_Idx (cx_Ex n))] [Inhabited (PLift (cx_Exl n))] [∀ s : cx_Sd n, Add (cx_MM s)] [∀ s : cx_Sd n, Inhabited (PLift (cx_MGl (cx_MM s)))] [∀ s : cx_Sd n, Inhabited (cx_Tord (cx_Ex n) (cx_MM s))] [Inhabited (PLift (cx_MMl n))] (s : cx_Sd n) (k : Fin n) (a : cx_Ex n) : cx_sd (cx_turn s k) a = cx_sd s a := by
  by_cases h : ∃ i, a = cx_ee i
  · obtain ⟨i, rfl⟩ := h; rw [cx_sd_ee, cx_sd_ee]; rfl
  · rw [cx_sd_no _ (fun i e => h ⟨i, e⟩), cx_sd_no _ (fun i e => h ⟨i, e⟩)]
theorem cx_th_ee [Mul (cx_S Nat)] [One (cx_S Nat)] [Add (cx_S Nat)] [Zero (cx_S Nat)] [Inhabited (cx_Idx Nat)] [Inhabited (PLift cx_Natl)] {n : Nat} [Zero (cx_Ex n)] [Add (cx_Ex n)] [Mul (cx_S (cx_Ex n))] [One (cx_S (cx_Ex n))] [Add (cx_S (cx_Ex n))] [Zero (cx_S (cx_Ex n))] [Inhabited (cx_Idx (cx_Ex n))] [Inhabited (PLift (cx_Exl n))] [∀ s : cx_Sd n, Add (cx_MM s)] [∀ s : cx_Sd n, Inhabited (PLift (cx_MGl (cx_MM s)))] [∀ s : cx_Sd n, Inhabited (cx_Tord (cx_Ex n) (cx_MM s))] [Inhabited (PLift (cx_MMl n))] (ρ : Fin n → Nat) {k i : Fin n} (hi : i ≠ k) (h : ρ i = 0) : cx_th ρ k (cx_ee i) = cx_ee i := by
  unfold cx_th
  rw [cx_rw_ee, h]
  funext j
  by_cases hj : j = k
  · subst hj; rw [cx_dn_k, cx_ee_ne (fun e => hi e.symm)]
  · rw [cx_dn_ne _ _ hj]
theorem cx_pk_ee [Mul (cx_S Nat)] [One (cx_S Nat)] [Add (cx_S Nat)] [Zero (cx_S Nat)] [Inhabited (cx_Idx Nat)] [Inhabited (PLift cx_Natl)] {n : Nat} [Zero (cx_Ex n)] [Add (cx_Ex n)] [Mul (cx_S (cx_Ex n))] [One (cx_S (cx_Ex n))] [Add (cx_S (cx_Ex n))] [Zero (cx_S (cx_Ex n))] [Inhabited (cx_Idx (cx_Ex n))] [Inhabited (PLift (cx_Exl n))] [∀ s : cx_Sd n, Add (cx_MM s)] [∀ s : cx_Sd n, Inhabited (PLift (cx_MGl (cx_MM s)))] [∀ s : cx_Sd n, Inhabited (cx_Tord (cx_Ex n) (cx_MM s))] [Inhabited (PLift (cx_MMl n))] (s : cx_Sd n) (k i : Fin n) : cx_pk s k (cx_ee i) = (s.b k i : Rat) := by
  unfold cx_pk
  rw [cx_p_def]
  exact cx_dt_ee (fun j => (s.b k j : Rat)) i
theorem cx_sd_th [Mul (cx_S Nat)] [One (cx_S Nat)] [Add (cx_S Nat)] [Zero (cx_S Nat)] [Inhabited (cx_Idx Nat)] [Inhabited (PLift cx_Natl)] {n : Nat} [Zero (cx_Ex n)] [Add (cx_Ex n)] [Mul (cx_S (cx_Ex n))] [One (cx_S (cx_Ex n))] [Add (cx_S (cx_Ex n))] [Zero (cx_S (cx_Ex n))] [Inhabited (cx_Idx (cx_Ex n))] [Inhabited (PLift (cx_Exl n))] [∀ s : cx_Sd n, Add (cx_MM s)] [∀ s : cx_Sd n, Inhabited (PLift (cx_MGl (cx_MM s)))] [∀ s : cx_Sd n, Inhabited (cx_Tord (cx_Ex n) (cx_MM s))] [Inhabited (PLift (cx_MMl n))] {s : cx_Sd n} {k : Fin n} {ρ : Fin n → Nat} (hρ : cx_Rho s k ρ) {a : cx_Ex n} (ha : cx_Sv (cx_dl k) (cx_vv ρ k) a) (h0 : ∀ i, i ≠ k → (a = cx_ee i ∨ cx_th ρ k a = cx_ee i) → ρ i = 0) :
    cx_sd s (cx_th ρ k a) = cx_sd (cx_turn s k) a := by
  rw [cx_sd_turn]
  have T0 := cx_trn hρ
  have nk : ∀ i, cx_Sv (cx_dl k) (cx_vv ρ k) (cx_ee i) → i ≠ k := fun i hi e => by subst e; have := hi.1; rw [(cx_kd s i).dlk] at this; grind
  by_cases h : ∃ i, a = cx_ee i
  · obtain ⟨i, rfl⟩ := h
    have hi := nk i ha
    rw [cx_th_ee ρ hi (h0 i hi (.inl rfl))]
  · by_cases h2 : ∃ i, cx_th ρ k a = cx_ee i
    · obtain ⟨i, hi⟩ := h2
      have h3 := T0.to a ha
      rw [hi] at h3
      have hik := nk i h3
      have h4 : a = cx_th ρ k (cx_ee i) := by rw [← hi]; exact (T0.l a ha).symm
      rw [cx_th_ee ρ hik (h0 i hik (.inr hi))] at h4
      exact absurd ⟨i, h4⟩ h
    · rw [cx_sd_no _ (fun i e => h ⟨i, e⟩), cx_sd_no _ (fun i e => h2 ⟨i, e⟩)]
theorem cx_pk_th [Mul (cx_S Nat)] [One (cx_S Nat)] [Add (cx_S Nat)] [Zero (cx_S Nat)] [Inhabited (cx_Idx Nat)] [Inhabited (PLift cx_Natl)] {n : Nat} [Zero (cx_Ex n)] [Add (cx_Ex n)] [Mul (cx_S (cx_Ex n))] [One (cx_S (cx_Ex n))] [Add (cx_S (cx_Ex n))] [Zero (cx_S (cx_Ex n))] [Inhabited (cx_Idx (cx_Ex n))] [Inhabited (PLift (cx_Exl n))] [∀ s : cx_Sd n, Add (cx_MM s)] [∀ s : cx_Sd n, Inhabited (PLift (cx_MGl (cx_MM s)))] [∀ s : cx_Sd n, Inhabited (cx_Tord (cx_Ex n) (cx_MM s))] [Inhabited (PLift (cx_MMl n))] {s : cx_Sd n} {k : Fin n} (ρ : Fin n → Nat) (a : cx_Ex n) : cx_pk s k (cx_th ρ k a) = cx_pk s k a := cx_pk_dn s k a _
theorem cx_inc_turn [Mul (cx_S Nat)] [One (cx_S Nat)] [Add (cx_S Nat)] [Zero (cx_S Nat)] [Inhabited (cx_Idx Nat)] [Inhabited (PLift cx_Natl)] {n : Nat} [Zero (cx_Ex n)] [Add (cx_Ex n)] [Mul (cx_S (cx_Ex n))] [One (cx_S (cx_Ex n))] [Add (cx_S (cx_Ex n))] [Zero (cx_S (cx_Ex n))] [Inhabited (cx_Idx (cx_Ex n))] [Inhabited (PLift (cx_Exl n))] [∀ s : cx_Sd n, Add (cx_MM s)] [∀ s : cx_Sd n, Inhabited (PLift (cx_MGl (cx_MM s)))] [∀ s : cx_Sd n, Inhabited (cx_Tord (cx_Ex n) (cx_MM s))] [Inhabited (PLift (cx_MMl n))] {s : cx_Sd n} {k : Fin n} {h h2 : cx_MM s → cx_S (cx_Ex n)} (hp : cx_Pair (cx_ee k) (cx_qq s k) (cx_vv (cx_rm s k) k) (cx_vv (cx_rp s k) k) (cx_dl k) (cx_ZZ s) h h2)
    (hi : cx_Inc (cx_comp (cx_E (cx_ee k) (cx_qq s k)) h) (cx_sd s)) : cx_Inc (cx_comp (cx_E (cx_ee k) (cx_qq (cx_turn s k) k)) (cx_trS s k (cx_rp s k) h2)) (cx_sd (cx_turn s k)) := by
  classical
  have hp' := cx_pair_turn hp
  have kd' := cx_kd (cx_turn s k) k
  have hw' := cx_pair_wh (cx_std (cx_turn s k) k) kd' hp'
  have st := cx_std (cx_turn s k) k
  intro a ha t0 gt0 ct0 f0 lf0
  have ddeg : cx_deg (cx_ee k) ≤ cx_deg a := cx_deg_ge kd' ha
  by_cases hd : cx_dl k a = 0
  · rw [cx_auto0 kd' hp' ha hd gt0 lf0, st.ray a ha hd]
  have hd' : 0 < cx_dl k a := by have := kd'.dl0 a; grind
  have hnp : ¬ cx_Par a (cx_ee k) := fun h => hd (by
    have e := h (cx_dl k) (cx_dl_fun k)
    rw [kd'.dlk, Rat.zero_mul] at e
    rcases Rat.mul_eq_zero.1 e.symm with h | h
    · exact h
    · have := cx_dg_pos (cx_ee_nz k); grind)
  have epk : cx_pr (cx_ee k) (cx_p a : cx_MM (cx_turn s k)) = (s.d k : Rat) * - cx_pk s k a := by
    rw [cx_pr_ee, cx_turn_d]
    have := cx_pk_turn s k a
    unfold cx_pk at *
    rw [this]
  have hdk := cx_d_pos s k
  by_cases hr : 0 ≤ cx_pr (cx_ee k) (cx_p a : cx_MM (cx_turn s k))
  · have hpk : cx_pk s k a ≤ 0 := by
      by_cases h : cx_pk s k a ≤ 0
      · exact h
      · have := Rat.mul_pos hdk (by grind : 0 < cx_pk s k a); grind
    by_cases hv : 0 ≤ cx_vv (cx_rm (cx_turn s k) k) k a
    · have hS : cx_Sv (cx_dl k) (cx_vv (cx_rp s k) k) a := ⟨hd', by rw [← cx_rm_turn]; exact hv⟩
      obtain ⟨t, t2, f, f2, g1, c1, tk, g2, c2, t2k, l1, l2, e⟩ := cx_side (cx_rho_p s k) hp.gh2 hp.sh2 hS 1 (.inl rfl) (by grind)
      have e1 := cx_indep hw' ha g1 c1 (cx_lam_left (cx_ee_nz k) ddeg (by grind) l1) t0 gt0 ct0 f0 lf0
      have ha0 := (cx_trn (cx_rho_p s k)).nz _ ((cx_trn (cx_rho_p s k)).to a hS)
      have l3 := cx_lam_right (cx_ee_nz k) (q := cx_qq s k) (cx_deg_ge (cx_kd s k) ha0) (by rw [t2k]; grind) l2
      rw [← hp.cj] at l3
      rw [e1, e, hi _ ha0 t2 g2 c2 f2 l3]
      refine cx_sd_th (cx_rho_p s k) hS (fun i hik hor => ?_)
      have : cx_pk s k (cx_ee i) ≤ 0 := by
        rcases hor with h | h
        · rw [← h]; exact hpk
        · rw [← h, cx_pk_th]; exact hpk
      rw [cx_pk_ee] at this
      have h3 : s.b k i ≤ 0 := by exact_mod_cast this
      unfold cx_rp cx_pos
      omega
    · obtain ⟨t, gt, ct, tk⟩ := cx_gen_cmp (M := cx_MM (cx_turn s k)) ha (cx_deg a) (cx_ee k) hnp 1 (.inl rfl) (by grind)
      obtain ⟨f, lf, _⟩ := cx_Lam.exists hw' gt
      rw [cx_indep hw' ha gt ct lf t0 gt0 ct0 f0 lf0, cx_auto1 kd' st.hZ hp' ha (fun h => hv h.2) gt (by grind) lf]
      exact (Classical.byContradiction (fun h => hv (st.off a hd' (fun e => h e.symm)).1))
  · have hpk : 0 ≤ cx_pk s k a := by
      by_cases h : 0 ≤ cx_pk s k a
      · exact h
      · have := Rat.mul_pos hdk (by grind : 0 < - cx_pk s k a); grind
    by_cases hv : 0 ≤ cx_vv (cx_rp (cx_turn s k) k) k a
    · have hS : cx_Sv (cx_dl k) (cx_vv (cx_rm s k) k) a := ⟨hd', by rw [← cx_rp_turn]; exact hv⟩
      obtain ⟨t, t2, f, f2, g1, c1, tk, g2, c2, t2k, l1, l2, e⟩ := cx_side (cx_rho_m s k) hp.gh hp.sh hS (-1) (.inr rfl) (by grind)
      have l4 := cx_lam_right (cx_ee_nz k) (q := cx_qq (cx_turn s k) k) ddeg (by grind) l1
      rw [← hp'.cj] at l4
      have e1 := cx_indep hw' ha g1 c1 l4 t0 gt0 ct0 f0 lf0
      have ha0 := (cx_trn (cx_rho_m s k)).nz _ ((cx_trn (cx_rho_m s k)).to a hS)
      have l3 := cx_lam_left (cx_ee_nz k) (q := cx_qq s k) (cx_deg_ge (cx_kd s k) ha0) (by rw [t2k]; grind) l2
      rw [e1, e, hi _ ha0 t2 g2 c2 f2 l3]
      refine cx_sd_th (cx_rho_m s k) hS (fun i hik hor => ?_)
      have : 0 ≤ cx_pk s k (cx_ee i) := by
        rcases hor with h | h
        · rw [← h]; exact hpk
        · rw [← h, cx_pk_th]; exact hpk
      rw [cx_pk_ee] at this
      have h3 : 0 ≤ s.b k i := by exact_mod_cast this
      unfold cx_rm cx_pos
      omega
    · obtain ⟨t, gt, ct, tk⟩ := cx_gen_cmp (M := cx_MM (cx_turn s k)) ha (cx_deg a) (cx_ee k) hnp (-1) (.inr rfl) (by grind)
      obtain ⟨f, lf, _⟩ := cx_Lam.exists hw' gt
      rw [cx_indep hw' ha gt ct lf t0 gt0 ct0 f0 lf0, cx_auto2 kd' st.hZ hp' ha (fun h => hv h.2) gt (by grind) lf]
      exact (Classical.byContradiction (fun h => hv (st.off a hd' (fun e => h e.symm)).2))
end

section
def cx_MnT [Mul (cx_S Nat)] [One (cx_S Nat)] [Add (cx_S Nat)] [Zero (cx_S Nat)] [Inhabited (cx_Idx Nat)] [Inhabited (PLift cx_Natl)] {B : Type} [Zero B] [Add B] [Mul (cx_S B)] [One (cx_S B)] [Add (cx_S B)] [Zero (cx_S B)] [Inhabited (cx_Idx B)] {M : Type} [Add M] [Inhabited (PLift (cx_MGl M))] [Inhabited (cx_Tord B M)] (T : B → Prop) (g : M → cx_S B) (t : B → Rat) (f : M → cx_S B) : Prop := ∀ d, ∃ wp w0 wm, cx_Fac t T d g wp w0 wm ∧ cx_Eqd d f (cx_ev wm)
theorem cx_MnT.weak [Mul (cx_S Nat)] [One (cx_S Nat)] [Add (cx_S Nat)] [Zero (cx_S Nat)] [Inhabited (cx_Idx Nat)] [Inhabited (PLift cx_Natl)] {B : Type} [Zero B] [Add B] [Mul (cx_S B)] [One (cx_S B)] [Add (cx_S B)] [Zero (cx_S B)] [Inhabited (cx_Idx B)] {M : Type} [Add M] [Inhabited (PLift (cx_MGl M))] [Inhabited (cx_Tord B M)] {T T' : B → Prop} (h : ∀ b, T b → T' b) {g f : M → cx_S B} {t : B → Rat} (hm : cx_MnT T g t f) : cx_MnT T' g t f := fun d => by
  obtain ⟨wp, w0, wm, hf, he⟩ := hm d
  exact ⟨wp, w0, wm, hf.weak h, he⟩
theorem cx_MnT.exists [Mul (cx_S Nat)] [One (cx_S Nat)] [Add (cx_S Nat)] [Zero (cx_S Nat)] [Inhabited (cx_Idx Nat)] [Inhabited (PLift cx_Natl)] {B : Type} [Zero B] [Add B] [Mul (cx_S B)] [One (cx_S B)] [Add (cx_S B)] [Zero (cx_S B)] [Inhabited (cx_Idx B)] {M : Type} [Add M] [Inhabited (PLift (cx_MGl M))] [Inhabited (cx_Tord B M)] {T : B → Prop} (hT : cx_Clo T) {g : M → cx_S B} (hg : cx_Good g) (hs : cx_Sup T g) {t : B → Rat} (ht : cx_Fun t) : ∃ f, cx_MnT T g t f ∧ cx_Good f ∧ cx_Sup T f := by
  have ex : ∀ d, ∃ w : List (B × Rat) × List (B × Rat) × List (B × Rat), cx_Fac t T d g w.1 w.2.1 w.2.2 := fun d => by
    obtain ⟨wp, w0, wm, h, _⟩ := cx_Fac.exists (t := t) hT (Z := fun _ => False) (fun _ _ h _ => h) hg hs (fun _ _ h => h.elim) d
    exact ⟨(wp, w0, wm), h⟩
  obtain ⟨W, hW⟩ := Classical.axiomOfChoice ex
  let f : M → cx_S B := fun m b => cx_ev (W (cx_deg b)).2.2 m b
  have e : ∀ d, cx_Eqd d f (cx_ev (W d).2.2) := by
    intro d m b hb
    have u := ((hW (cx_deg b)).unique ht ((hW d).cut hb) cx_Eqd.rfl').2.2
    have c := cx_ev_cut (M := M) (d := cx_deg b) (hW d).neg.nz
    exact (u m b (Nat.le_refl _)).trans (c m b (Nat.le_refl _)).symm
  refine ⟨f, fun d => ⟨_, _, _, hW d, e d⟩, cx_good_lim (fun d => ⟨_, cx_ev_good (hW d).neg.nz, e d⟩), fun m b hb hn => ?_⟩
  exact cx_ev_sup hT (fun x hx => ((hW (cx_deg b)).neg.all x hx).2.1.1) m b hb hn
theorem cx_MnT.large [Mul (cx_S Nat)] [One (cx_S Nat)] [Add (cx_S Nat)] [Zero (cx_S Nat)] [Inhabited (cx_Idx Nat)] [Inhabited (PLift cx_Natl)] {B : Type} [Zero B] [Add B] [Mul (cx_S B)] [One (cx_S B)] [Add (cx_S B)] [Zero (cx_S B)] [Inhabited (cx_Idx B)] {M : Type} [Add M] [Inhabited (PLift (cx_MGl M))] [Inhabited (cx_Tord B M)] {T : B → Prop} {g f : M → cx_S B} {t : B → Rat} (d0 : Nat) (h : ∀ d, d0 ≤ d → ∃ wp w0 wm, cx_Fac t T d g wp w0 wm ∧ cx_Eqd d f (cx_ev wm)) : cx_MnT T g t f := by
  intro d
  obtain ⟨wp, w0, wm, hf, he⟩ := h (max d d0) (Nat.le_max_right _ _)
  exact ⟨_, _, _, hf.cut (Nat.le_max_left _ _), (he.mono (Nat.le_max_left _ _)).trans (cx_ev_cut hf.neg.nz)⟩
theorem cx_MnT.left [Mul (cx_S Nat)] [One (cx_S Nat)] [Add (cx_S Nat)] [Zero (cx_S Nat)] [Inhabited (cx_Idx Nat)] [Inhabited (PLift cx_Natl)] {B : Type} [Zero B] [Add B] [Mul (cx_S B)] [One (cx_S B)] [Add (cx_S B)] [Zero (cx_S B)] [Inhabited (cx_Idx B)] {M : Type} [Add M] [Inhabited (PLift (cx_MGl M))] [Inhabited (cx_Tord B M)] {T : B → Prop} {h f : M → cx_S B} {t : B → Rat} {k : B} (hk : k ≠ 0) (q : Rat) (htk : 0 < t k) (hm : cx_MnT T h t f) : cx_MnT cx_All (cx_comp (cx_E k q) h) t f := by
  refine cx_MnT.large (cx_deg k) (fun d hd => ?_)
  obtain ⟨wp, w0, wm, hf, he⟩ := hm d
  have hf := hf.weak (T' := cx_All) (fun _ _ => trivial)
  refine ⟨(k, q) :: wp, w0, wm, ⟨⟨fun x hx => ?_⟩, hf.nul, hf.neg, ?_⟩, he⟩
  · rcases List.mem_cons.1 hx with rfl | hx
    · exact ⟨hk, ⟨trivial, htk⟩, hd⟩
    · exact hf.pos.all x hx
  · rw [cx_ev_cons, cx_comp_assoc]; exact cx_Eqd.comp cx_Eqd.rfl' hf.eq
theorem cx_MnT.right [Mul (cx_S Nat)] [One (cx_S Nat)] [Add (cx_S Nat)] [Zero (cx_S Nat)] [Inhabited (cx_Idx Nat)] [Inhabited (PLift cx_Natl)] {B : Type} [Zero B] [Add B] [Mul (cx_S B)] [One (cx_S B)] [Add (cx_S B)] [Zero (cx_S B)] [Inhabited (cx_Idx B)] {M : Type} [Add M] [Inhabited (PLift (cx_MGl M))] [Inhabited (cx_Tord B M)] {T : B → Prop} {h f : M → cx_S B} {t : B → Rat} {k : B} (hk : k ≠ 0) (q : Rat) (htk : t k < 0) (hm : cx_MnT T h t f) : cx_MnT cx_All (cx_comp h (cx_E k q)) t (cx_comp f (cx_E k q)) := by
  refine cx_MnT.large (cx_deg k) (fun d hd => ?_)
  obtain ⟨wp, w0, wm, hf, he⟩ := hm d
  have hf := hf.weak (T' := cx_All) (fun _ _ => trivial)
  refine ⟨wp, w0, wm ++ [(k, q)], ⟨hf.pos, hf.nul, ⟨fun x hx => ?_⟩, ?_⟩, ?_⟩
  · rcases List.mem_append.1 hx with hx | hx
    · exact hf.neg.all x hx
    · have : x = (k, q) := by simpa using hx
      subst this
      exact ⟨hk, ⟨trivial, htk⟩, hd⟩
  · rw [cx_ev_append, cx_ev_one, ← cx_comp_assoc, ← cx_comp_assoc, cx_comp_assoc (cx_ev wp)]; exact cx_Eqd.comp hf.eq cx_Eqd.rfl'
  · rw [cx_ev_append, cx_ev_one]; exact cx_Eqd.comp he cx_Eqd.rfl'
theorem cx_MnT.unique [Mul (cx_S Nat)] [One (cx_S Nat)] [Add (cx_S Nat)] [Zero (cx_S Nat)] [Inhabited (cx_Idx Nat)] [Inhabited (PLift cx_Natl)] {B : Type} [Zero B] [Add B] [Mul (cx_S B)] [One (cx_S B)] [Add (cx_S B)] [Zero (cx_S B)] [Inhabited (cx_Idx B)] {M : Type} [Add M] [Inhabited (PLift (cx_MGl M))] [Inhabited (cx_Tord B M)] {g f f' : M → cx_S B} {t : B → Rat} (ht : cx_Fun t) (h : cx_MnT cx_All g t f) (h' : cx_MnT cx_All g t f') : f = f' := cx_eqd_all (fun d => by
  obtain ⟨wp, w0, wm, hf, he⟩ := h d
  obtain ⟨wp', w0', wm', hf', he'⟩ := h' d
  exact he.trans ((hf.unique ht hf' cx_Eqd.rfl').2.2.trans he'.symm))
theorem cx_MnT.theta [Mul (cx_S Nat)] [One (cx_S Nat)] [Add (cx_S Nat)] [Zero (cx_S Nat)] [Inhabited (cx_Idx Nat)] [Inhabited (PLift cx_Natl)] {B : Type} [Zero B] [Add B] [Mul (cx_S B)] [One (cx_S B)] [Add (cx_S B)] [Zero (cx_S B)] [Inhabited (cx_Idx B)] {M : Type} [Add M] [Inhabited (PLift (cx_MGl M))] [Inhabited (cx_Tord B M)] {Z : M → Prop} {g : M → cx_S B} (h : cx_Wh Z g) (hpos : ∀ a : B, a ≠ 0 → cx_PosAt g a) {m : M} (hm : Z m) (hdom : ∀ a : B, 0 ≤ cx_pr a m) {t : B → Rat} (ht : cx_Fun t) {f : M → cx_S B}
    (hf : cx_MnT cx_All g t f) (b : B) : 0 ≤ f m b ∧ cx_IsI (f m b) := by
  obtain ⟨wp, w0, wm, hw, he⟩ := hf (cx_deg b)
  rw [he m b (Nat.le_refl _)]
  refine ⟨cx_theta h hpos hm hdom ht hw b (Nat.le_refl _), ?_⟩
  obtain ⟨wp', w0', wm', hw', hl⟩ := h.fac t (cx_deg b)
  rw [(hw.unique ht hw' cx_Eqd.rfl').2.2 m b (Nat.le_refl _)]
  exact cx_ev_whole (d := cx_deg b) (T := cx_All) ⟨fun _ _ _ _ => trivial⟩ (fun m u hm _ => h.hZ m u hm) (fun x hx => ⟨trivial, hl x (by simp [hx])⟩) m hm b (Nat.le_refl _)
theorem cx_MnT.trivial [Mul (cx_S Nat)] [One (cx_S Nat)] [Add (cx_S Nat)] [Zero (cx_S Nat)] [Inhabited (cx_Idx Nat)] [Inhabited (PLift cx_Natl)] {B : Type} [Zero B] [Add B] [Mul (cx_S B)] [One (cx_S B)] [Add (cx_S B)] [Zero (cx_S B)] [Inhabited (cx_Idx B)] {M : Type} [Add M] [Inhabited (PLift (cx_MGl M))] [Inhabited (cx_Tord B M)] {g : M → cx_S B} (hg : cx_Good g) {t : B → Rat} (ht : cx_Fun t) (hp : ∀ b : B, b ≠ 0 → 0 < t b) : cx_MnT cx_All g t cx_I := by
  intro d
  obtain ⟨wp, w0, wm, h, _⟩ := cx_Fac.exists (t := t) (T := cx_All) ⟨fun _ _ _ _ => True.intro⟩ (Z := fun _ => False) (fun _ _ h _ => h) hg (fun _ _ _ h => absurd True.intro h) (fun _ _ h => h.elim) d
  refine ⟨wp, w0, wm, h, ?_⟩
  have : wm = [] := by
    cases wm with
    | nil => rfl
    | cons x l =>
      have := h.neg.all x (by simp)
      have h2 := hp x.1 this.1
      have h3 := this.2.1.2
      grind
  rw [this]; exact cx_Eqd.rfl'
theorem cx_Good.zero [Mul (cx_S Nat)] [One (cx_S Nat)] [Add (cx_S Nat)] [Zero (cx_S Nat)] [Inhabited (cx_Idx Nat)] [Inhabited (PLift cx_Natl)] {B : Type} [Zero B] [Add B] [Mul (cx_S B)] [One (cx_S B)] [Add (cx_S B)] [Zero (cx_S B)] [Inhabited (cx_Idx B)] {M : Type} [Add M] [Inhabited (PLift (cx_MGl M))] [Inhabited (cx_Tord B M)] {g : M → cx_S B} (hg : cx_Good g) : g (cx_p (0 : B)) = 1 := by
  have h := hg.hom (cx_p (0 : B)) (cx_p (0 : B))
  rw [cx_p_zero] at h
  have main : ∀ k, ∀ b : B, cx_deg b < k → b ≠ 0 → g (cx_p (0 : B)) b = 0 := by
    intro k
    induction k with
    | zero => intro b h; omega
    | succ k ih =>
      intro b hbk hb
      have e := congrFun h b
      have e2 : (g (cx_p (0 : B)) * g (cx_p (0 : B))) b = cx_D b (fun u v => g (cx_p (0 : B)) u * g (cx_p (0 : B)) v) := cx_mul_D _ _ _
      rw [e2, cx_D_ends hb] at e
      · rw [hg.unit] at e; grind
      · intro u v huv hu hv
        have hd := cx_deg_add u v
        rw [huv] at hd
        have : cx_deg v ≠ 0 := fun e => hv (cx_deg_pos v e)
        rw [ih u (by omega) hu, Rat.zero_mul]
  classical
  refine cx_S.ext (fun b => ?_)
  by_cases hb : b = 0
  · rw [hb, hg.unit, cx_one_zero]
  · rw [main (cx_deg b + 1) b (Nat.lt_succ_self _) hb, cx_one_ne hb]
def cx_IsG [Mul (cx_S Nat)] [One (cx_S Nat)] [Add (cx_S Nat)] [Zero (cx_S Nat)] [Inhabited (cx_Idx Nat)] [Inhabited (PLift cx_Natl)] {n : Nat} [Zero (cx_Ex n)] [Add (cx_Ex n)] [Mul (cx_S (cx_Ex n))] [One (cx_S (cx_Ex n))] [Add (cx_S (cx_Ex n))] [Zero (cx_S (cx_Ex n))] [Inhabited (cx_Idx (cx_Ex n))] [Inhabited (PLift (cx_Exl n))] [∀ s : cx_Sd n, Add (cx_MM s)] [∀ s : cx_Sd n, Inhabited (PLift (cx_MGl (cx_MM s)))] [∀ s : cx_Sd n, Inhabited (cx_Tord (cx_Ex n) (cx_MM s))] [Inhabited (PLift (cx_MMl n))] (s : cx_Sd n) (g : cx_MM s → cx_S (cx_Ex n)) : Prop := cx_Wh (cx_ZZ s) g ∧ cx_Inc g (cx_sd s)
theorem cx_IsG.unique [Mul (cx_S Nat)] [One (cx_S Nat)] [Add (cx_S Nat)] [Zero (cx_S Nat)] [Inhabited (cx_Idx Nat)] [Inhabited (PLift cx_Natl)] {n : Nat} [Zero (cx_Ex n)] [Add (cx_Ex n)] [Mul (cx_S (cx_Ex n))] [One (cx_S (cx_Ex n))] [Add (cx_S (cx_Ex n))] [Zero (cx_S (cx_Ex n))] [Inhabited (cx_Idx (cx_Ex n))] [Inhabited (PLift (cx_Exl n))] [∀ s : cx_Sd n, Add (cx_MM s)] [∀ s : cx_Sd n, Inhabited (PLift (cx_MGl (cx_MM s)))] [∀ s : cx_Sd n, Inhabited (cx_Tord (cx_Ex n) (cx_MM s))] [Inhabited (PLift (cx_MMl n))] {s : cx_Sd n} {g g' : cx_MM s → cx_S (cx_Ex n)} (h : cx_IsG s g) (h' : cx_IsG s g') : g = g' := cx_inc_unique h.1 h'.1 h.2 h'.2
theorem cx_IsG.pos [Mul (cx_S Nat)] [One (cx_S Nat)] [Add (cx_S Nat)] [Zero (cx_S Nat)] [Inhabited (cx_Idx Nat)] [Inhabited (PLift cx_Natl)] {n : Nat} [Zero (cx_Ex n)] [Add (cx_Ex n)] [Mul (cx_S (cx_Ex n))] [One (cx_S (cx_Ex n))] [Add (cx_S (cx_Ex n))] [Zero (cx_S (cx_Ex n))] [Inhabited (cx_Idx (cx_Ex n))] [Inhabited (PLift (cx_Exl n))] [∀ s : cx_Sd n, Add (cx_MM s)] [∀ s : cx_Sd n, Inhabited (PLift (cx_MGl (cx_MM s)))] [∀ s : cx_Sd n, Inhabited (cx_Tord (cx_Ex n) (cx_MM s))] [Inhabited (PLift (cx_MMl n))] {s : cx_Sd n} {g : cx_MM s → cx_S (cx_Ex n)} (h : cx_IsG s g) : ∀ a : cx_Ex n, a ≠ 0 → cx_PosAt g a := cx_walls h.1 (cx_sd_nonneg s) h.2
def cx_PairS [Mul (cx_S Nat)] [One (cx_S Nat)] [Add (cx_S Nat)] [Zero (cx_S Nat)] [Inhabited (cx_Idx Nat)] [Inhabited (PLift cx_Natl)] {n : Nat} [Zero (cx_Ex n)] [Add (cx_Ex n)] [Mul (cx_S (cx_Ex n))] [One (cx_S (cx_Ex n))] [Add (cx_S (cx_Ex n))] [Zero (cx_S (cx_Ex n))] [Inhabited (cx_Idx (cx_Ex n))] [Inhabited (PLift (cx_Exl n))] [∀ s : cx_Sd n, Add (cx_MM s)] [∀ s : cx_Sd n, Inhabited (PLift (cx_MGl (cx_MM s)))] [∀ s : cx_Sd n, Inhabited (cx_Tord (cx_Ex n) (cx_MM s))] [Inhabited (PLift (cx_MMl n))] (s : cx_Sd n) (k : Fin n) (h h2 : cx_MM s → cx_S (cx_Ex n)) : Prop := cx_Pair (cx_ee k) (cx_qq s k) (cx_vv (cx_rm s k) k) (cx_vv (cx_rp s k) k) (cx_dl k) (cx_ZZ s) h h2
theorem cx_IsG.exists [Mul (cx_S Nat)] [One (cx_S Nat)] [Add (cx_S Nat)] [Zero (cx_S Nat)] [Inhabited (cx_Idx Nat)] [Inhabited (PLift cx_Natl)] {n : Nat} [Zero (cx_Ex n)] [Add (cx_Ex n)] [Mul (cx_S (cx_Ex n))] [One (cx_S (cx_Ex n))] [Add (cx_S (cx_Ex n))] [Zero (cx_S (cx_Ex n))] [Inhabited (cx_Idx (cx_Ex n))] [Inhabited (PLift (cx_Exl n))] [∀ s : cx_Sd n, Add (cx_MM s)] [∀ s : cx_Sd n, Inhabited (PLift (cx_MGl (cx_MM s)))] [∀ s : cx_Sd n, Inhabited (cx_Tord (cx_Ex n) (cx_MM s))] [Inhabited (PLift (cx_MMl n))] (s : cx_Sd n) (k : Fin n) : ∃ h h2 : cx_MM s → cx_S (cx_Ex n), cx_PairS s k h h2 ∧ cx_IsG s (cx_comp (cx_E (cx_ee k) (cx_qq s k)) h) := by
  obtain ⟨h, h2, hp, hi⟩ := cx_pair_exists (cx_std s k) (cx_kd s k)
  exact ⟨h, h2, hp, cx_pair_wh (cx_std s k) (cx_kd s k) hp, hi⟩
theorem cx_isG_turn [Mul (cx_S Nat)] [One (cx_S Nat)] [Add (cx_S Nat)] [Zero (cx_S Nat)] [Inhabited (cx_Idx Nat)] [Inhabited (PLift cx_Natl)] {n : Nat} [Zero (cx_Ex n)] [Add (cx_Ex n)] [Mul (cx_S (cx_Ex n))] [One (cx_S (cx_Ex n))] [Add (cx_S (cx_Ex n))] [Zero (cx_S (cx_Ex n))] [Inhabited (cx_Idx (cx_Ex n))] [Inhabited (PLift (cx_Exl n))] [∀ s : cx_Sd n, Add (cx_MM s)] [∀ s : cx_Sd n, Inhabited (PLift (cx_MGl (cx_MM s)))] [∀ s : cx_Sd n, Inhabited (cx_Tord (cx_Ex n) (cx_MM s))] [Inhabited (PLift (cx_MMl n))] {s : cx_Sd n} {k : Fin n} {h h2 : cx_MM s → cx_S (cx_Ex n)} (hp : cx_PairS s k h h2) (hg : cx_IsG s (cx_comp (cx_E (cx_ee k) (cx_qq s k)) h)) :
    cx_IsG (cx_turn s k) (cx_comp (cx_E (cx_ee k) (cx_qq (cx_turn s k) k)) (cx_trS s k (cx_rp s k) h2)) :=
  ⟨cx_pair_wh (cx_std (cx_turn s k) k) (cx_kd (cx_turn s k) k) (cx_pair_turn hp), cx_inc_turn hp hg.2⟩
theorem cx_trS_mn [Mul (cx_S Nat)] [One (cx_S Nat)] [Add (cx_S Nat)] [Zero (cx_S Nat)] [Inhabited (cx_Idx Nat)] [Inhabited (PLift cx_Natl)] {n : Nat} [Zero (cx_Ex n)] [Add (cx_Ex n)] [Mul (cx_S (cx_Ex n))] [One (cx_S (cx_Ex n))] [Add (cx_S (cx_Ex n))] [Zero (cx_S (cx_Ex n))] [Inhabited (cx_Idx (cx_Ex n))] [Inhabited (PLift (cx_Exl n))] [∀ s : cx_Sd n, Add (cx_MM s)] [∀ s : cx_Sd n, Inhabited (PLift (cx_MGl (cx_MM s)))] [∀ s : cx_Sd n, Inhabited (cx_Tord (cx_Ex n) (cx_MM s))] [Inhabited (PLift (cx_MMl n))] {s : cx_Sd n} {k : Fin n} {ρ : Fin n → Nat} (hρ : cx_Rho s k ρ) {h F : cx_MM s → cx_S (cx_Ex n)} {t' : cx_Ex n → Rat} (ht' : cx_Fun t')
    (hm : cx_MnT (cx_Sv (cx_dl k) (cx_vv ρ k)) h (cx_pull ρ k t') F) : cx_MnT (cx_Sv (cx_dl k) (cx_vv ρ k)) (cx_trS s k ρ h) t' (cx_trS s k ρ F) := by
  intro d'
  obtain ⟨d, hd⟩ := cx_th_bnd ρ k (cx_Sv (cx_dl k) (cx_vv ρ k)) d'
  obtain ⟨wp, w0, wm, hf, he⟩ := hm d
  have T0 := cx_trn hρ
  refine ⟨_, _, _, cx_tr_fac T0 hd (t' := t') (fun b hb => cx_pull_on hρ.k0 ht' ((cx_sv_iff ρ k b).1 hb).2) hf, ?_⟩
  have e := cx_tr_eqd T0 hd he
  rw [cx_tr_ev T0 (fun x hx => (hf.neg.all x hx).2.1.1)] at e
  refine e.trans (cx_ev_cut (fun x hx => ?_))
  obtain ⟨y, hy, rfl⟩ := List.mem_map.1 hx
  exact T0.nz' _ (T0.to _ (hf.neg.all y hy).2.1.1)
theorem cx_mn_A [Mul (cx_S Nat)] [One (cx_S Nat)] [Add (cx_S Nat)] [Zero (cx_S Nat)] [Inhabited (cx_Idx Nat)] [Inhabited (PLift cx_Natl)] {n : Nat} [Zero (cx_Ex n)] [Add (cx_Ex n)] [Mul (cx_S (cx_Ex n))] [One (cx_S (cx_Ex n))] [Add (cx_S (cx_Ex n))] [Zero (cx_S (cx_Ex n))] [Inhabited (cx_Idx (cx_Ex n))] [Inhabited (PLift (cx_Exl n))] [∀ s : cx_Sd n, Add (cx_MM s)] [∀ s : cx_Sd n, Inhabited (PLift (cx_MGl (cx_MM s)))] [∀ s : cx_Sd n, Inhabited (cx_Tord (cx_Ex n) (cx_MM s))] [Inhabited (PLift (cx_MMl n))] {s : cx_Sd n} {k : Fin n} {h h2 : cx_MM s → cx_S (cx_Ex n)} (hp : cx_PairS s k h h2) {t' : cx_Ex n → Rat} (ht' : cx_Fun t') (hk : 0 < t' (cx_ee k)) :
    ∃ F, cx_Good F ∧ cx_Sup (cx_Sv (cx_dl k) (cx_vv (cx_rp s k) k)) F ∧ cx_MnT cx_All (cx_comp (cx_E (cx_ee k) (cx_qq (cx_turn s k) k)) (cx_trS s k (cx_rp s k) h2)) t' (cx_trS s k (cx_rp s k) F) ∧
      cx_MnT cx_All (cx_comp (cx_E (cx_ee k) (cx_qq s k)) h) (cx_pull (cx_rp s k) k t') (cx_comp F (cx_E (cx_ee k) (cx_qq s k))) := by
  obtain ⟨F, hF, gF, sF⟩ := cx_MnT.exists (cx_Sv.clo (cx_dl_fun k) (cx_vv_fun (cx_rp s k) k)) hp.gh2 hp.sh2 (cx_pull_fun (cx_rp s k) k t')
  refine ⟨F, gF, sF, (cx_trS_mn (cx_rho_p s k) ht' hF).left (cx_ee_nz k) _ hk, ?_⟩
  rw [hp.cj]
  exact hF.right (cx_ee_nz k) _ (by rw [cx_pull_k]; grind)
theorem cx_mn_B [Mul (cx_S Nat)] [One (cx_S Nat)] [Add (cx_S Nat)] [Zero (cx_S Nat)] [Inhabited (cx_Idx Nat)] [Inhabited (PLift cx_Natl)] {n : Nat} [Zero (cx_Ex n)] [Add (cx_Ex n)] [Mul (cx_S (cx_Ex n))] [One (cx_S (cx_Ex n))] [Add (cx_S (cx_Ex n))] [Zero (cx_S (cx_Ex n))] [Inhabited (cx_Idx (cx_Ex n))] [Inhabited (PLift (cx_Exl n))] [∀ s : cx_Sd n, Add (cx_MM s)] [∀ s : cx_Sd n, Inhabited (PLift (cx_MGl (cx_MM s)))] [∀ s : cx_Sd n, Inhabited (cx_Tord (cx_Ex n) (cx_MM s))] [Inhabited (PLift (cx_MMl n))] {s : cx_Sd n} {k : Fin n} {h h2 : cx_MM s → cx_S (cx_Ex n)} (hp : cx_PairS s k h h2) {t' : cx_Ex n → Rat} (ht' : cx_Fun t') (hk : t' (cx_ee k) < 0) :
    ∃ F, cx_Good F ∧ cx_Sup (cx_Sv (cx_dl k) (cx_vv (cx_rm s k) k)) F ∧ cx_MnT cx_All (cx_comp (cx_E (cx_ee k) (cx_qq (cx_turn s k) k)) (cx_trS s k (cx_rp s k) h2)) t' (cx_comp (cx_trS s k (cx_rm s k) F) (cx_E (cx_ee k) (cx_qq (cx_turn s k) k))) ∧
      cx_MnT cx_All (cx_comp (cx_E (cx_ee k) (cx_qq s k)) h) (cx_pull (cx_rm s k) k t') F := by
  obtain ⟨F, hF, gF, sF⟩ := cx_MnT.exists (cx_Sv.clo (cx_dl_fun k) (cx_vv_fun (cx_rm s k) k)) hp.gh hp.sh (cx_pull_fun (cx_rm s k) k t')
  refine ⟨F, gF, sF, ?_, hF.left (cx_ee_nz k) _ (by rw [cx_pull_k]; grind)⟩
  rw [(cx_pair_turn hp).cj]
  exact (cx_trS_mn (cx_rho_m s k) ht' hF).right (cx_ee_nz k) _ hk
end

section
noncomputable def cx_cm [Mul (cx_S Nat)] [One (cx_S Nat)] [Add (cx_S Nat)] [Zero (cx_S Nat)] [Inhabited (cx_Idx Nat)] [Inhabited (PLift cx_Natl)] {B : Type} [Zero B] [Add B] [Mul (cx_S B)] [One (cx_S B)] [Add (cx_S B)] [Zero (cx_S B)] [Inhabited (cx_Idx B)] (c : Rat) (a : B) : cx_S B := fun b => @ite _ (a = b) (Classical.propDecidable _) c 0
theorem cx_cm_mul [Mul (cx_S Nat)] [One (cx_S Nat)] [Add (cx_S Nat)] [Zero (cx_S Nat)] [Inhabited (cx_Idx Nat)] [Inhabited (PLift cx_Natl)] {B : Type} [Zero B] [Add B] [Mul (cx_S B)] [One (cx_S B)] [Add (cx_S B)] [Zero (cx_S B)] [Inhabited (cx_Idx B)] (c c' : Rat) (a a' : B) : cx_cm c a * cx_cm c' a' = cx_cm (c * c') (a + a') := by
  classical
  have e : ∀ (c : Rat) (a b : B), cx_cm c a b = c * cx_mon a b := fun c a b => by
    unfold cx_cm cx_mon
    by_cases h : a = b
    · rw [if_pos h, if_pos h.symm]; grind
    · rw [if_neg h, if_neg (fun e => h e.symm)]; grind
  refine cx_S.ext (fun b => ?_)
  rw [e, ← cx_mon_mul, cx_mul_D, cx_mul_D, ← cx_D_mulL]
  refine cx_D_congr (fun u v _ => ?_)
  rw [e, e]; grind
noncomputable def cx_ser [Mul (cx_S Nat)] [One (cx_S Nat)] [Add (cx_S Nat)] [Zero (cx_S Nat)] [Inhabited (cx_Idx Nat)] [Inhabited (PLift cx_Natl)] {B : Type} [Zero B] [Add B] [Mul (cx_S B)] [One (cx_S B)] [Add (cx_S B)] [Zero (cx_S B)] [Inhabited (cx_Idx B)] : List (Rat × B) → cx_S B
  | [] => fun _ => 0
  | x :: l => fun b => cx_cm x.1 x.2 b + cx_ser l b
theorem cx_ser_nil [Mul (cx_S Nat)] [One (cx_S Nat)] [Add (cx_S Nat)] [Zero (cx_S Nat)] [Inhabited (cx_Idx Nat)] [Inhabited (PLift cx_Natl)] {B : Type} [Zero B] [Add B] [Mul (cx_S B)] [One (cx_S B)] [Add (cx_S B)] [Zero (cx_S B)] [Inhabited (cx_Idx B)] : cx_ser ([] : List (Rat × B)) = (0 : cx_S B) := cx_S.ext (fun b => (cx_zero_def b).symm)
theorem cx_ser_cons [Mul (cx_S Nat)] [One (cx_S Nat)] [Add (cx_S Nat)] [Zero (cx_S Nat)] [Inhabited (cx_Idx Nat)] [Inhabited (PLift cx_Natl)] {B : Type} [Zero B] [Add B] [Mul (cx_S B)] [One (cx_S B)] [Add (cx_S B)] [Zero (cx_S B)] [Inhabited (cx_Idx B)] (x : Rat × B) (l : List (Rat × B)) : cx_ser (x :: l) = cx_cm x.1 x.2 + cx_ser l := cx_S.ext (fun b => (cx_add_def _ _ b).symm)
theorem cx_szero_add [Mul (cx_S Nat)] [One (cx_S Nat)] [Add (cx_S Nat)] [Zero (cx_S Nat)] [Inhabited (cx_Idx Nat)] [Inhabited (PLift cx_Natl)] {B : Type} [Zero B] [Add B] [Mul (cx_S B)] [One (cx_S B)] [Add (cx_S B)] [Zero (cx_S B)] [Inhabited (cx_Idx B)] (f : cx_S B) : (0 : cx_S B) + f = f := by refine cx_S.ext (fun b => ?_); rw [cx_add_def, cx_zero_def]; grind
theorem cx_smul_zero [Mul (cx_S Nat)] [One (cx_S Nat)] [Add (cx_S Nat)] [Zero (cx_S Nat)] [Inhabited (cx_Idx Nat)] [Inhabited (PLift cx_Natl)] {B : Type} [Zero B] [Add B] [Mul (cx_S B)] [One (cx_S B)] [Add (cx_S B)] [Zero (cx_S B)] [Inhabited (cx_Idx B)] (f : cx_S B) : f * (0 : cx_S B) = 0 := by
  refine cx_S.ext (fun b => ?_); rw [cx_mul_D, cx_zero_def]; exact cx_D_zero (fun u v _ => by rw [cx_zero_def]; grind)
theorem cx_szero_mul [Mul (cx_S Nat)] [One (cx_S Nat)] [Add (cx_S Nat)] [Zero (cx_S Nat)] [Inhabited (cx_Idx Nat)] [Inhabited (PLift cx_Natl)] {B : Type} [Zero B] [Add B] [Mul (cx_S B)] [One (cx_S B)] [Add (cx_S B)] [Zero (cx_S B)] [Inhabited (cx_Idx B)] (f : cx_S B) : (0 : cx_S B) * f = 0 := by rw [cx_mulC, cx_smul_zero]
theorem cx_ser_app [Mul (cx_S Nat)] [One (cx_S Nat)] [Add (cx_S Nat)] [Zero (cx_S Nat)] [Inhabited (cx_Idx Nat)] [Inhabited (PLift cx_Natl)] {B : Type} [Zero B] [Add B] [Mul (cx_S B)] [One (cx_S B)] [Add (cx_S B)] [Zero (cx_S B)] [Inhabited (cx_Idx B)] (l l' : List (Rat × B)) : cx_ser (l ++ l') = cx_ser l + cx_ser l' := by
  induction l with
  | nil => rw [List.nil_append, cx_ser_nil, cx_szero_add]
  | cons x l ih => rw [List.cons_append, cx_ser_cons, cx_ser_cons, ih, cx_saddA]
def cx_sh [Mul (cx_S Nat)] [One (cx_S Nat)] [Add (cx_S Nat)] [Zero (cx_S Nat)] [Inhabited (cx_Idx Nat)] [Inhabited (PLift cx_Natl)] {B : Type} [Zero B] [Add B] [Mul (cx_S B)] [One (cx_S B)] [Add (cx_S B)] [Zero (cx_S B)] [Inhabited (cx_Idx B)] (x : Rat × B) (l : List (Rat × B)) : List (Rat × B) := l.map fun y => (x.1 * y.1, x.2 + y.2)
theorem cx_ser_sh [Mul (cx_S Nat)] [One (cx_S Nat)] [Add (cx_S Nat)] [Zero (cx_S Nat)] [Inhabited (cx_Idx Nat)] [Inhabited (PLift cx_Natl)] {B : Type} [Zero B] [Add B] [Mul (cx_S B)] [One (cx_S B)] [Add (cx_S B)] [Zero (cx_S B)] [Inhabited (cx_Idx B)] (x : Rat × B) (l : List (Rat × B)) : cx_ser (cx_sh x l) = cx_cm x.1 x.2 * cx_ser l := by
  induction l with
  | nil => show cx_ser [] = _; rw [cx_ser_nil, cx_smul_zero]
  | cons y l ih =>
    show cx_ser ((x.1 * y.1, x.2 + y.2) :: cx_sh x l) = _
    rw [cx_ser_cons, ih, cx_ser_cons, cx_mulD, cx_cm_mul]
def cx_pm [Mul (cx_S Nat)] [One (cx_S Nat)] [Add (cx_S Nat)] [Zero (cx_S Nat)] [Inhabited (cx_Idx Nat)] [Inhabited (PLift cx_Natl)] {B : Type} [Zero B] [Add B] [Mul (cx_S B)] [One (cx_S B)] [Add (cx_S B)] [Zero (cx_S B)] [Inhabited (cx_Idx B)] (l l' : List (Rat × B)) : List (Rat × B) := l.flatMap fun x => cx_sh x l'
theorem cx_ser_pm [Mul (cx_S Nat)] [One (cx_S Nat)] [Add (cx_S Nat)] [Zero (cx_S Nat)] [Inhabited (cx_Idx Nat)] [Inhabited (PLift cx_Natl)] {B : Type} [Zero B] [Add B] [Mul (cx_S B)] [One (cx_S B)] [Add (cx_S B)] [Zero (cx_S B)] [Inhabited (cx_Idx B)] (l l' : List (Rat × B)) : cx_ser (cx_pm l l') = cx_ser l * cx_ser l' := by
  induction l with
  | nil => show cx_ser [] = _; rw [cx_ser_nil, cx_szero_mul]
  | cons x l ih =>
    show cx_ser (List.flatMap _ (x :: l)) = _
    rw [List.flatMap_cons, cx_ser_app, cx_ser_sh, cx_ser_cons, cx_mulD']
    congr 1
def cx_val [Mul (cx_S Nat)] [One (cx_S Nat)] [Add (cx_S Nat)] [Zero (cx_S Nat)] [Inhabited (cx_Idx Nat)] [Inhabited (PLift cx_Natl)] {B : Type} [Zero B] [Add B] [Mul (cx_S B)] [One (cx_S B)] [Add (cx_S B)] [Zero (cx_S B)] [Inhabited (cx_Idx B)] (y : B → Rat) (l : List (Rat × B)) : Rat := cx_sm l (fun x => x.1 * y x.2)
theorem cx_val_app [Mul (cx_S Nat)] [One (cx_S Nat)] [Add (cx_S Nat)] [Zero (cx_S Nat)] [Inhabited (cx_Idx Nat)] [Inhabited (PLift cx_Natl)] {B : Type} [Zero B] [Add B] [Mul (cx_S B)] [One (cx_S B)] [Add (cx_S B)] [Zero (cx_S B)] [Inhabited (cx_Idx B)] (y : B → Rat) (l l' : List (Rat × B)) : cx_val y (l ++ l') = cx_val y l + cx_val y l' := cx_sm_append _ _ _
theorem cx_val_sh [Mul (cx_S Nat)] [One (cx_S Nat)] [Add (cx_S Nat)] [Zero (cx_S Nat)] [Inhabited (cx_Idx Nat)] [Inhabited (PLift cx_Natl)] {B : Type} [Zero B] [Add B] [Mul (cx_S B)] [One (cx_S B)] [Add (cx_S B)] [Zero (cx_S B)] [Inhabited (cx_Idx B)] {y : B → Rat} (hy : ∀ a b, y (a + b) = y a * y b) (x : Rat × B) (l : List (Rat × B)) : cx_val y (cx_sh x l) = x.1 * y x.2 * cx_val y l := by
  unfold cx_val cx_sh
  rw [cx_sm_map, ← cx_sm_mulL]
  exact cx_sm_congr (fun z _ => by rw [hy]; grind)
theorem cx_val_pm [Mul (cx_S Nat)] [One (cx_S Nat)] [Add (cx_S Nat)] [Zero (cx_S Nat)] [Inhabited (cx_Idx Nat)] [Inhabited (PLift cx_Natl)] {B : Type} [Zero B] [Add B] [Mul (cx_S B)] [One (cx_S B)] [Add (cx_S B)] [Zero (cx_S B)] [Inhabited (cx_Idx B)] {y : B → Rat} (hy : ∀ a b, y (a + b) = y a * y b) (l l' : List (Rat × B)) : cx_val y (cx_pm l l') = cx_val y l * cx_val y l' := by
  induction l with
  | nil => show (0 : Rat) = 0 * _; grind
  | cons x l ih =>
    show cx_val y (List.flatMap _ (x :: l)) = _
    rw [List.flatMap_cons, cx_val_app, cx_val_sh hy]
    have : cx_val y (List.flatMap (fun x => cx_sh x l') l) = cx_val y l * cx_val y l' := ih
    rw [this]
    show _ = (x.1 * y x.2 + cx_val y l) * _
    grind
def cx_Nn [Mul (cx_S Nat)] [One (cx_S Nat)] [Add (cx_S Nat)] [Zero (cx_S Nat)] [Inhabited (cx_Idx Nat)] [Inhabited (PLift cx_Natl)] {B : Type} [Zero B] [Add B] [Mul (cx_S B)] [One (cx_S B)] [Add (cx_S B)] [Zero (cx_S B)] [Inhabited (cx_Idx B)] (l : List (Rat × B)) : Prop := ∀ x ∈ l, 0 ≤ x.1
def cx_Nz [Mul (cx_S Nat)] [One (cx_S Nat)] [Add (cx_S Nat)] [Zero (cx_S Nat)] [Inhabited (cx_Idx Nat)] [Inhabited (PLift cx_Natl)] {B : Type} [Zero B] [Add B] [Mul (cx_S B)] [One (cx_S B)] [Add (cx_S B)] [Zero (cx_S B)] [Inhabited (cx_Idx B)] (l : List (Rat × B)) : Prop := ∃ x ∈ l, 0 < x.1
theorem cx_Nn.sh [Mul (cx_S Nat)] [One (cx_S Nat)] [Add (cx_S Nat)] [Zero (cx_S Nat)] [Inhabited (cx_Idx Nat)] [Inhabited (PLift cx_Natl)] {B : Type} [Zero B] [Add B] [Mul (cx_S B)] [One (cx_S B)] [Add (cx_S B)] [Zero (cx_S B)] [Inhabited (cx_Idx B)] {x : Rat × B} {l : List (Rat × B)} (hx : 0 ≤ x.1) (h : cx_Nn l) : cx_Nn (cx_sh x l) := by
  intro z hz
  obtain ⟨y, hy, rfl⟩ := List.mem_map.1 hz
  exact Rat.mul_nonneg hx (h y hy)
theorem cx_Nn.pm [Mul (cx_S Nat)] [One (cx_S Nat)] [Add (cx_S Nat)] [Zero (cx_S Nat)] [Inhabited (cx_Idx Nat)] [Inhabited (PLift cx_Natl)] {B : Type} [Zero B] [Add B] [Mul (cx_S B)] [One (cx_S B)] [Add (cx_S B)] [Zero (cx_S B)] [Inhabited (cx_Idx B)] {l l' : List (Rat × B)} (h : cx_Nn l) (h' : cx_Nn l') : cx_Nn (cx_pm l l') := by
  intro z hz
  obtain ⟨x, hx, hz⟩ := List.mem_flatMap.1 hz
  exact cx_Nn.sh (h x hx) h' z hz
theorem cx_Nn.app [Mul (cx_S Nat)] [One (cx_S Nat)] [Add (cx_S Nat)] [Zero (cx_S Nat)] [Inhabited (cx_Idx Nat)] [Inhabited (PLift cx_Natl)] {B : Type} [Zero B] [Add B] [Mul (cx_S B)] [One (cx_S B)] [Add (cx_S B)] [Zero (cx_S B)] [Inhabited (cx_Idx B)] {l l' : List (Rat × B)} (h : cx_Nn l) (h' : cx_Nn l') : cx_Nn (l ++ l') := by
  intro z hz
  rcases List.mem_append.1 hz with hz | hz
  · exact h z hz
  · exact h' z hz
theorem cx_Nz.pm [Mul (cx_S Nat)] [One (cx_S Nat)] [Add (cx_S Nat)] [Zero (cx_S Nat)] [Inhabited (cx_Idx Nat)] [Inhabited (PLift cx_Natl)] {B : Type} [Zero B] [Add B] [Mul (cx_S B)] [One (cx_S B)] [Add (cx_S B)] [Zero (cx_S B)] [Inhabited (cx_Idx B)] {l l' : List (Rat × B)} (h : cx_Nz l) (h' : cx_Nz l') : cx_Nz (cx_pm l l') := by
  obtain ⟨x, hx, h1⟩ := h
  obtain ⟨y, hy, h2⟩ := h'
  exact ⟨(x.1 * y.1, x.2 + y.2), List.mem_flatMap.2 ⟨x, hx, List.mem_map.2 ⟨y, hy, rfl⟩⟩, Rat.mul_pos h1 h2⟩
theorem cx_Nz.app [Mul (cx_S Nat)] [One (cx_S Nat)] [Add (cx_S Nat)] [Zero (cx_S Nat)] [Inhabited (cx_Idx Nat)] [Inhabited (PLift cx_Natl)] {B : Type} [Zero B] [Add B] [Mul (cx_S B)] [One (cx_S B)] [Add (cx_S B)] [Zero (cx_S B)] [Inhabited (cx_Idx B)] {l l' : List (Rat × B)} (h : cx_Nz l) : cx_Nz (l ++ l') := by
  obtain ⟨x, hx, h1⟩ := h
  exact ⟨x, List.mem_append.2 (.inl hx), h1⟩
theorem cx_val_nonneg [Mul (cx_S Nat)] [One (cx_S Nat)] [Add (cx_S Nat)] [Zero (cx_S Nat)] [Inhabited (cx_Idx Nat)] [Inhabited (PLift cx_Natl)] {B : Type} [Zero B] [Add B] [Mul (cx_S B)] [One (cx_S B)] [Add (cx_S B)] [Zero (cx_S B)] [Inhabited (cx_Idx B)] {y : B → Rat} (hy : ∀ a, 0 < y a) {l : List (Rat × B)} (h : cx_Nn l) : 0 ≤ cx_val y l :=
  cx_sm_nonneg (fun x hx => Rat.mul_nonneg (h x hx) (by have := hy x.2; grind))
theorem cx_val_pos [Mul (cx_S Nat)] [One (cx_S Nat)] [Add (cx_S Nat)] [Zero (cx_S Nat)] [Inhabited (cx_Idx Nat)] [Inhabited (PLift cx_Natl)] {B : Type} [Zero B] [Add B] [Mul (cx_S B)] [One (cx_S B)] [Add (cx_S B)] [Zero (cx_S B)] [Inhabited (cx_Idx B)] {y : B → Rat} (hy : ∀ a, 0 < y a) {l : List (Rat × B)} (h : cx_Nn l) (hz : cx_Nz l) : 0 < cx_val y l := by
  induction l with
  | nil => obtain ⟨x, hx, _⟩ := hz; simp at hx
  | cons z l ih =>
    show 0 < z.1 * y z.2 + cx_val y l
    have h1 := Rat.mul_nonneg (h z (by simp)) (by have := hy z.2; grind : 0 ≤ y z.2)
    have h2 := cx_val_nonneg hy (l := l) (fun x hx => h x (by simp [hx]))
    obtain ⟨x, hx, hp⟩ := hz
    rcases List.mem_cons.1 hx with rfl | hx
    · have := Rat.mul_pos hp (hy x.2); grind
    · have := ih (fun x hx => h x (by simp [hx])) ⟨x, hx, hp⟩; grind
theorem cx_ser_nonneg [Mul (cx_S Nat)] [One (cx_S Nat)] [Add (cx_S Nat)] [Zero (cx_S Nat)] [Inhabited (cx_Idx Nat)] [Inhabited (PLift cx_Natl)] {B : Type} [Zero B] [Add B] [Mul (cx_S B)] [One (cx_S B)] [Add (cx_S B)] [Zero (cx_S B)] [Inhabited (cx_Idx B)] {l : List (Rat × B)} (h : cx_Nn l) (b : B) : 0 ≤ cx_ser l b := by
  classical
  induction l with
  | nil => show (0 : Rat) ≤ 0; grind
  | cons x l ih =>
    show 0 ≤ cx_cm x.1 x.2 b + cx_ser l b
    have h1 := ih (fun y hy => h y (by simp [hy]))
    have h2 : 0 ≤ cx_cm x.1 x.2 b := by
      unfold cx_cm
      by_cases e : x.2 = b
      · rw [if_pos e]; exact h x (by simp)
      · rw [if_neg e]; grind
    grind
theorem cx_ser_pos [Mul (cx_S Nat)] [One (cx_S Nat)] [Add (cx_S Nat)] [Zero (cx_S Nat)] [Inhabited (cx_Idx Nat)] [Inhabited (PLift cx_Natl)] {B : Type} [Zero B] [Add B] [Mul (cx_S B)] [One (cx_S B)] [Add (cx_S B)] [Zero (cx_S B)] [Inhabited (cx_Idx B)] {l : List (Rat × B)} (h : cx_Nn l) (hz : cx_Nz l) : ∃ c, 0 < cx_ser l c := by
  classical
  obtain ⟨x, hx, hp⟩ := hz
  refine ⟨x.2, ?_⟩
  induction l with
  | nil => simp at hx
  | cons z l ih =>
    show 0 < cx_cm z.1 z.2 x.2 + cx_ser l x.2
    have h1 := cx_ser_nonneg (l := l) (fun y hy => h y (by simp [hy])) x.2
    have h2 : 0 ≤ cx_cm z.1 z.2 x.2 := by
      unfold cx_cm
      by_cases e : z.2 = x.2
      · rw [if_pos e]; exact h z (by simp)
      · rw [if_neg e]; grind
    rcases List.mem_cons.1 hx with rfl | hx
    · have : cx_cm x.1 x.2 x.2 = x.1 := by unfold cx_cm; rw [if_pos rfl]
      grind
    · have := ih (fun y hy => h y (by simp [hy])) hx; grind
theorem cx_ser_mem [Mul (cx_S Nat)] [One (cx_S Nat)] [Add (cx_S Nat)] [Zero (cx_S Nat)] [Inhabited (cx_Idx Nat)] [Inhabited (PLift cx_Natl)] {B : Type} [Zero B] [Add B] [Mul (cx_S B)] [One (cx_S B)] [Add (cx_S B)] [Zero (cx_S B)] [Inhabited (cx_Idx B)] {l : List (Rat × B)} {b : B} (h : cx_ser l b ≠ 0) : b ∈ l.map (·.2) := by
  classical
  induction l with
  | nil => exact absurd rfl h
  | cons x l ih =>
    by_cases e : x.2 = b
    · simp [e]
    · have h2 : cx_ser l b ≠ 0 := by
        intro h0
        apply h
        show cx_cm x.1 x.2 b + cx_ser l b = 0
        unfold cx_cm
        rw [if_neg e, h0]; grind
      have := ih h2
      simp only [List.map_cons, List.mem_cons]
      exact .inr this
theorem cx_nodup_list [Mul (cx_S Nat)] [One (cx_S Nat)] [Add (cx_S Nat)] [Zero (cx_S Nat)] [Inhabited (cx_Idx Nat)] [Inhabited (PLift cx_Natl)]  {α : Type} (l : List α) : ∃ u : List α, u.Nodup ∧ ∀ x, x ∈ u ↔ x ∈ l := by
  classical
  induction l with
  | nil => exact ⟨[], by simp, fun x => Iff.rfl⟩
  | cons a l ih =>
    obtain ⟨u, hn, hm⟩ := ih
    by_cases ha : a ∈ u
    · exact ⟨u, hn, fun x => by
        rw [hm, List.mem_cons]
        exact ⟨fun h => .inr h, fun h => h.elim (fun e => e ▸ (hm a).1 ha) id⟩⟩
    · exact ⟨a :: u, List.nodup_cons.2 ⟨ha, hn⟩, fun x => by rw [List.mem_cons, List.mem_cons, hm]⟩
theorem cx_val_list [Mul (cx_S Nat)] [One (cx_S Nat)] [Add (cx_S Nat)] [Zero (cx_S Nat)] [Inhabited (cx_Idx Nat)] [Inhabited (PLift cx_Natl)] {B : Type} [Zero B] [Add B] [Mul (cx_S B)] [One (cx_S B)] [Add (cx_S B)] [Zero (cx_S B)] [Inhabited (cx_Idx B)] {U : List B} (hn : U.Nodup) (y : B → Rat) (l : List (Rat × B)) (h : ∀ x ∈ l, x.2 ∈ U) : cx_val y l = cx_sm U (fun b => cx_ser l b * y b) := by
  classical
  induction l with
  | nil => show (0 : Rat) = _; exact (cx_sm_zero (fun b _ => by show (0 : Rat) * _ = 0; grind)).symm
  | cons x l ih =>
    have ih := ih (fun z hz => h z (by simp [hz]))
    show x.1 * y x.2 + cx_val y l = _
    rw [ih]
    have e1 : cx_sm U (fun b => cx_ser (x :: l) b * y b) = cx_sm U (fun b => cx_cm x.1 x.2 b * y b) + cx_sm U (fun b => cx_ser l b * y b) := by
      rw [← cx_sm_add]
      exact cx_sm_congr (fun b _ => by show (cx_cm x.1 x.2 b + cx_ser l b) * y b = _; grind)
    have e2 : ∀ U : List B, U.Nodup → x.2 ∈ U → cx_sm U (fun b => cx_cm x.1 x.2 b * y b) = x.1 * y x.2 := by
      intro U
      induction U with
      | nil => intro _ h; simp at h
      | cons a U ihU =>
        intro hn hm
        rw [List.nodup_cons] at hn
        rw [cx_sm_cons]
        by_cases ha : x.2 = a
        · have e3 : cx_sm U (fun b => cx_cm x.1 x.2 b * y b) = 0 := cx_sm_zero (fun b hb => by
            unfold cx_cm
            rw [if_neg (fun e : x.2 = b => hn.1 (by rw [← ha, e]; exact hb))]; grind)
          rw [e3]
          unfold cx_cm
          rw [if_pos ha, ha]; grind
        · have hm2 : x.2 ∈ U := by
            rcases List.mem_cons.1 hm with h | h
            · exact absurd h ha
            · exact h
          rw [ihU hn.2 hm2]
          unfold cx_cm
          rw [if_neg ha]; grind
    rw [e1, e2 U hn (h x (by simp))]
theorem cx_val_ser [Mul (cx_S Nat)] [One (cx_S Nat)] [Add (cx_S Nat)] [Zero (cx_S Nat)] [Inhabited (cx_Idx Nat)] [Inhabited (PLift cx_Natl)] {B : Type} [Zero B] [Add B] [Mul (cx_S B)] [One (cx_S B)] [Add (cx_S B)] [Zero (cx_S B)] [Inhabited (cx_Idx B)] (y : B → Rat) {l l' : List (Rat × B)} (h : cx_ser l = cx_ser l') : cx_val y l = cx_val y l' := by
  obtain ⟨U, hn, hm⟩ := cx_nodup_list ((l ++ l').map (·.2))
  rw [cx_val_list hn y l (fun x hx => (hm _).2 (List.mem_map.2 ⟨x, by simp [hx], rfl⟩)), cx_val_list hn y l' (fun x hx => (hm _).2 (List.mem_map.2 ⟨x, by simp [hx], rfl⟩)), h]
abbrev cx_RR [Mul (cx_S Nat)] [One (cx_S Nat)] [Add (cx_S Nat)] [Zero (cx_S Nat)] [Inhabited (cx_Idx Nat)] [Inhabited (PLift cx_Natl)] {B : Type} [Zero B] [Add B] [Mul (cx_S B)] [One (cx_S B)] [Add (cx_S B)] [Zero (cx_S B)] [Inhabited (cx_Idx B)] {ι : Type} (y : ι → B → Rat) (f : cx_S B) (v : ι → Rat) : Prop := Nonempty (∃ P Q : List (Rat × B), cx_Nn P ∧ cx_Nn Q ∧ cx_Nz Q ∧ f * cx_ser Q = cx_ser P ∧ ∀ i, v i * cx_val (y i) Q = cx_val (y i) P)
theorem cx_RR.ex [Mul (cx_S Nat)] [One (cx_S Nat)] [Add (cx_S Nat)] [Zero (cx_S Nat)] [Inhabited (cx_Idx Nat)] [Inhabited (PLift cx_Natl)] {B : Type} [Zero B] [Add B] [Mul (cx_S B)] [One (cx_S B)] [Add (cx_S B)] [Zero (cx_S B)] [Inhabited (cx_Idx B)] {ι : Type} {y : ι → B → Rat} {f : cx_S B} {v : ι → Rat} (hh_ : cx_RR y f v) : ∃ P Q : List (Rat × B), cx_Nn P ∧ cx_Nn Q ∧ cx_Nz Q ∧ f * cx_ser Q = cx_ser P ∧ ∀ i, v i * cx_val (y i) Q = cx_val (y i) P := hh_.elim id
abbrev cx_Mul1 [Mul (cx_S Nat)] [One (cx_S Nat)] [Add (cx_S Nat)] [Zero (cx_S Nat)] [Inhabited (cx_Idx Nat)] [Inhabited (PLift cx_Natl)] {B : Type} [Zero B] [Add B] [Mul (cx_S B)] [One (cx_S B)] [Add (cx_S B)] [Zero (cx_S B)] [Inhabited (cx_Idx B)] {ι : Type} (y : ι → B → Rat) : Prop := (∀ i a b, y i (a + b) = y i a * y i b) ∧ (∀ i a, 0 < y i a)
theorem cx_Mul1.add [Mul (cx_S Nat)] [One (cx_S Nat)] [Add (cx_S Nat)] [Zero (cx_S Nat)] [Inhabited (cx_Idx Nat)] [Inhabited (PLift cx_Natl)] {B : Type} [Zero B] [Add B] [Mul (cx_S B)] [One (cx_S B)] [Add (cx_S B)] [Zero (cx_S B)] [Inhabited (cx_Idx B)] {ι : Type} {y : ι → B → Rat} (hh_ : cx_Mul1 y) : ∀ i a b, y i (a + b) = y i a * y i b := hh_.1
theorem cx_Mul1.pos [Mul (cx_S Nat)] [One (cx_S Nat)] [Add (cx_S Nat)] [Zero (cx_S Nat)] [Inhabited (cx_Idx Nat)] [Inhabited (PLift cx_Natl)] {B : Type} [Zero B] [Add B] [Mul (cx_S B)] [One (cx_S B)] [Add (cx_S B)] [Zero (cx_S B)] [Inhabited (cx_Idx B)] {ι : Type} {y : ι → B → Rat} (hh_ : cx_Mul1 y) : ∀ i a, 0 < y i a := hh_.2
theorem cx_Mul1.zero [Mul (cx_S Nat)] [One (cx_S Nat)] [Add (cx_S Nat)] [Zero (cx_S Nat)] [Inhabited (cx_Idx Nat)] [Inhabited (PLift cx_Natl)] {B : Type} [Zero B] [Add B] [Mul (cx_S B)] [One (cx_S B)] [Add (cx_S B)] [Zero (cx_S B)] [Inhabited (cx_Idx B)] {ι : Type} {y : ι → B → Rat} (h : cx_Mul1 y) (i : ι) : y i 0 = 1 := by
  have h1 := h.add i 0 0
  rw [cx_addZ] at h1
  have h2 := h.pos i 0
  refine cx_canc_pos h2 ?_
  grind
theorem cx_RR.one [Mul (cx_S Nat)] [One (cx_S Nat)] [Add (cx_S Nat)] [Zero (cx_S Nat)] [Inhabited (cx_Idx Nat)] [Inhabited (PLift cx_Natl)] {B : Type} [Zero B] [Add B] [Mul (cx_S B)] [One (cx_S B)] [Add (cx_S B)] [Zero (cx_S B)] [Inhabited (cx_Idx B)] {ι : Type} {y : ι → B → Rat} (hy : cx_Mul1 y) : cx_RR y (1 : cx_S B) (fun _ => 1) := by
  classical
  have e : cx_ser [((1 : Rat), (0 : B))] = 1 := by
    refine cx_S.ext (fun b => ?_)
    show cx_cm 1 0 b + (0 : Rat) = (1 : cx_S B) b
    unfold cx_cm
    by_cases hb : b = 0
    · rw [if_pos hb.symm, hb, cx_one_zero]; grind
    · rw [if_neg (fun e => hb e.symm), cx_one_ne hb]; grind
  refine ⟨[(1, 0)], [(1, 0)], ?_, ?_, ⟨(1, 0), by simp, by show (0 : Rat) < 1; grind⟩, ?_, fun i => by grind⟩
  · intro x hx; have : x = (1, 0) := by simpa using hx
    subst this; show (0 : Rat) ≤ 1; grind
  · intro x hx; have : x = (1, 0) := by simpa using hx
    subst this; show (0 : Rat) ≤ 1; grind
  · rw [e, cx_mul1]
theorem cx_RR.mul [Mul (cx_S Nat)] [One (cx_S Nat)] [Add (cx_S Nat)] [Zero (cx_S Nat)] [Inhabited (cx_Idx Nat)] [Inhabited (PLift cx_Natl)] {B : Type} [Zero B] [Add B] [Mul (cx_S B)] [One (cx_S B)] [Add (cx_S B)] [Zero (cx_S B)] [Inhabited (cx_Idx B)] {ι : Type} {y : ι → B → Rat} (hy : cx_Mul1 y) {f f' : cx_S B} {v v' : ι → Rat} (h : cx_RR y f v) (h' : cx_RR y f' v') : cx_RR y (f * f') (fun i => v i * v' i) := by
  obtain ⟨P, Q, p1, q1, z1, e1, w1⟩ := h.ex
  obtain ⟨P', Q', p2, q2, z2, e2, w2⟩ := h'.ex
  refine ⟨cx_pm P P', cx_pm Q Q', p1.pm p2, q1.pm q2, z1.pm z2, ?_, fun i => ?_⟩
  · rw [cx_ser_pm, cx_ser_pm, ← e1, ← e2, cx_mulA, cx_mulA, ← cx_mulA f', cx_mulC f' (cx_ser Q), cx_mulA (cx_ser Q)]
  · rw [cx_val_pm (hy.add i), cx_val_pm (hy.add i), ← w1 i, ← w2 i]; grind
theorem cx_RR.congr [Mul (cx_S Nat)] [One (cx_S Nat)] [Add (cx_S Nat)] [Zero (cx_S Nat)] [Inhabited (cx_Idx Nat)] [Inhabited (PLift cx_Natl)] {B : Type} [Zero B] [Add B] [Mul (cx_S B)] [One (cx_S B)] [Add (cx_S B)] [Zero (cx_S B)] [Inhabited (cx_Idx B)] {ι : Type} {y : ι → B → Rat} {f f' : cx_S B} {v v' : ι → Rat} (h : cx_RR y f v) (hf : f = f') (hv : ∀ i, v i = v' i) : cx_RR y f' v' := by
  subst hf
  have : v = v' := funext hv
  subst this
  exact h
theorem cx_RR.plus [Mul (cx_S Nat)] [One (cx_S Nat)] [Add (cx_S Nat)] [Zero (cx_S Nat)] [Inhabited (cx_Idx Nat)] [Inhabited (PLift cx_Natl)] {B : Type} [Zero B] [Add B] [Mul (cx_S B)] [One (cx_S B)] [Add (cx_S B)] [Zero (cx_S B)] [Inhabited (cx_Idx B)] {ι : Type} {y : ι → B → Rat} (hy : cx_Mul1 y) {F : cx_S B} {v : ι → Rat} (h : cx_RR y F v) (k : B) : cx_RR y (1 + cx_mon k * F) (fun i => 1 + y i k * v i) ∧
    ∀ A : cx_S B, (1 + cx_mon k * F) * A = 1 → cx_RR y A (fun i => (1 + y i k * v i)⁻¹) := by
  classical
  obtain ⟨P, Q, p1, q1, z1, e1, w1⟩ := h.ex
  have ecm : cx_cm 1 k = (cx_mon k : cx_S B) := by
    refine cx_S.ext (fun b => ?_); unfold cx_cm cx_mon
    by_cases hb : k = b
    · rw [if_pos hb, if_pos hb.symm]
    · rw [if_neg hb, if_neg (fun e => hb e.symm)]
  have nsh : cx_Nn (cx_sh (1, k) P) := cx_Nn.sh (by show (0 : Rat) ≤ 1; grind) p1
  have es : cx_ser (Q ++ cx_sh (1, k) P) = (1 + cx_mon k * F) * cx_ser Q := by
    rw [cx_ser_app, cx_ser_sh, ecm, ← e1, cx_mulD', cx_one_mul', cx_mulA]
  have cx_ev : ∀ i, cx_val (y i) (Q ++ cx_sh (1, k) P) = (1 + y i k * v i) * cx_val (y i) Q := fun i => by
    rw [cx_val_app, cx_val_sh (hy.add i), ← w1 i]; show _ + 1 * y i k * _ = _; grind
  refine ⟨⟨Q ++ cx_sh (1, k) P, Q, q1.app nsh, q1, z1, es.symm, fun i => (cx_ev i).symm⟩, fun A hA => ?_⟩
  refine ⟨Q, Q ++ cx_sh (1, k) P, q1, q1.app nsh, z1.app, ?_, fun i => ?_⟩
  · rw [es, ← cx_mulA, cx_mulC A, hA, cx_one_mul']
  · rw [cx_ev i]
    have hq := cx_val_pos (hy.pos i) q1 z1
    have hp := cx_val_nonneg (hy.pos i) p1
    have hv : 0 ≤ v i := by
      by_cases hn : 0 ≤ v i
      · exact hn
      · have := Rat.mul_pos (by grind : 0 < - v i) hq
        have := w1 i
        grind
    have h1 := Rat.mul_nonneg (by have := hy.pos i k; grind : 0 ≤ y i k) hv
    have h2 : (1 + y i k * v i)⁻¹ * (1 + y i k * v i) = 1 := Rat.inv_mul_cancel _ (by grind)
    grind
theorem cx_RR.finite [Mul (cx_S Nat)] [One (cx_S Nat)] [Add (cx_S Nat)] [Zero (cx_S Nat)] [Inhabited (cx_Idx Nat)] [Inhabited (PLift cx_Natl)] {B : Type} [Zero B] [Add B] [Mul (cx_S B)] [One (cx_S B)] [Add (cx_S B)] [Zero (cx_S B)] [Inhabited (cx_Idx B)] {ι : Type} {y : ι → B → Rat} (hy : cx_Mul1 y) {f : cx_S B} {v : ι → Rat} (h : cx_RR y f v) (h0 : ∀ b, 0 ≤ f b) : ∃ U : List B, U.Nodup ∧ (∀ b, f b ≠ 0 → b ∈ U) ∧ ∀ i, v i = cx_sm U (fun b => f b * y i b) := by
  classical
  obtain ⟨P, Q, p1, q1, z1, e1, w1⟩ := h.ex
  obtain ⟨c, hc⟩ := cx_ser_pos q1 z1

  have hin : ∀ b, f b ≠ 0 → cx_ser P (b + c) ≠ 0 := by
    intro b hb
    have e := congrFun e1 (b + c)
    have e2 : (f * cx_ser Q) (b + c) = cx_sm (cx_dec (b + c)) (fun x => f x.1 * cx_ser Q x.2) := cx_mul_def _ _ _
    rw [← e, e2]
    have hm : (b, c) ∈ cx_dec (b + c) := (cx_mem_dec _ _ _).2 rfl
    have hge : ∀ l : List (B × B), (b, c) ∈ l → f b * cx_ser Q c ≤ cx_sm l (fun x => f x.1 * cx_ser Q x.2) := by
      intro l
      induction l with
      | nil => intro h; simp at h
      | cons x l ih =>
        intro hx
        rw [cx_sm_cons]
        have hx0 : 0 ≤ f x.1 * cx_ser Q x.2 := Rat.mul_nonneg (h0 _) (cx_ser_nonneg q1 _)
        have hl0 : 0 ≤ cx_sm l (fun x => f x.1 * cx_ser Q x.2) := cx_sm_nonneg (fun z _ => Rat.mul_nonneg (h0 _) (cx_ser_nonneg q1 _))
        rcases List.mem_cons.1 hx with rfl | hx
        · grind
        · have := ih hx; grind
    have := hge _ hm
    have h2 := Rat.mul_pos (by have := h0 b; grind : 0 < f b) hc
    grind
  have ex : ∃ U : List B, U.Nodup ∧ ∀ b, f b ≠ 0 → b ∈ U := by
    obtain ⟨U, hU, hmU⟩ := cx_nodup_list ((P.map (·.2)).flatMap fun x => (cx_dec x).map (·.1))
    refine ⟨U, hU, fun b hb => (hmU b).2 ?_⟩
    exact List.mem_flatMap.2 ⟨b + c, cx_ser_mem (hin b hb), List.mem_map.2 ⟨(b, c), (cx_mem_dec _ _ _).2 rfl, rfl⟩⟩
  obtain ⟨U, hU, hmU⟩ := ex
  refine ⟨U, hU, hmU, fun i => ?_⟩
  let L : List (Rat × B) := U.map fun b => (f b, b)
  have esL : cx_ser L = f := by
    have key : ∀ U : List B, U.Nodup → ∀ b, cx_ser (U.map fun b => (f b, b)) b = if b ∈ U then f b else 0 := by
      intro U
      induction U with
      | nil => intro _ b; rw [if_neg (by simp)]; rfl
      | cons a U ih =>
        intro hn b
        rw [List.nodup_cons] at hn
        show cx_cm (f a) a b + cx_ser (U.map fun b => (f b, b)) b = _
        rw [ih hn.2 b]
        unfold cx_cm
        by_cases hab : a = b
        · subst hab
          rw [if_pos rfl, if_neg hn.1, if_pos (by simp)]; grind
        · rw [if_neg hab]
          by_cases hb : b ∈ U
          · rw [if_pos hb, if_pos (by simp [hb])]; grind
          · rw [if_neg hb, if_neg (by simp [hb]; exact fun e => hab e.symm)]; grind
    refine cx_S.ext (fun b => ?_)
    show cx_ser (U.map fun b => (f b, b)) b = f b
    rw [key U hU b]
    by_cases hb : b ∈ U
    · rw [if_pos hb]
    · rw [if_neg hb]
      exact Classical.byContradiction (fun h => hb (hmU b (fun e => h e.symm)))
  have e2 : cx_ser (cx_pm L Q) = cx_ser P := by rw [cx_ser_pm, esL, e1]
  have e3 := cx_val_ser (y i) e2
  rw [cx_val_pm (hy.add i), ← w1 i] at e3
  have hq := cx_val_pos (hy.pos i) q1 z1
  have e4 := cx_canc_pos hq e3
  rw [← e4]
  show cx_sm (U.map fun b => (f b, b)) _ = _
  rw [cx_sm_map]
def cx_tN [Mul (cx_S Nat)] [One (cx_S Nat)] [Add (cx_S Nat)] [Zero (cx_S Nat)] [Inhabited (cx_Idx Nat)] [Inhabited (PLift cx_Natl)] {n : Nat} [Zero (cx_Ex n)] [Add (cx_Ex n)] [Mul (cx_S (cx_Ex n))] [One (cx_S (cx_Ex n))] [Add (cx_S (cx_Ex n))] [Zero (cx_S (cx_Ex n))] [Inhabited (cx_Idx (cx_Ex n))] [Inhabited (PLift (cx_Exl n))] [∀ s : cx_Sd n, Add (cx_MM s)] [∀ s : cx_Sd n, Inhabited (PLift (cx_MGl (cx_MM s)))] [∀ s : cx_Sd n, Inhabited (cx_Tord (cx_Ex n) (cx_MM s))] [Inhabited (PLift (cx_MMl n))] (ρ : Fin n → Nat) (k : Fin n) (N : Nat) (b : cx_Ex n) : cx_Ex n := cx_dn b k (cx_rw_ ρ b + N - b k)
theorem cx_ser_conv [Mul (cx_S Nat)] [One (cx_S Nat)] [Add (cx_S Nat)] [Zero (cx_S Nat)] [Inhabited (cx_Idx Nat)] [Inhabited (PLift cx_Natl)] {n : Nat} [Zero (cx_Ex n)] [Add (cx_Ex n)] [Mul (cx_S (cx_Ex n))] [One (cx_S (cx_Ex n))] [Add (cx_S (cx_Ex n))] [Zero (cx_S (cx_Ex n))] [Inhabited (cx_Idx (cx_Ex n))] [Inhabited (PLift (cx_Exl n))] [∀ s : cx_Sd n, Add (cx_MM s)] [∀ s : cx_Sd n, Inhabited (PLift (cx_MGl (cx_MM s)))] [∀ s : cx_Sd n, Inhabited (cx_Tord (cx_Ex n) (cx_MM s))] [Inhabited (PLift (cx_MMl n))] (f : cx_S (cx_Ex n)) (l : List (Rat × cx_Ex n)) (b : cx_Ex n) : (f * cx_ser l) b = cx_sm l (fun x => @dite _ (∃ u, u + x.2 = b) (Classical.propDecidable _) (fun h => x.1 * f (Classical.choose h)) (fun _ => 0)) := by
  classical
  induction l with
  | nil => rw [cx_ser_nil, cx_smul_zero, cx_zero_def]; rfl
  | cons x l ih =>
    rw [cx_ser_cons, cx_mulD, cx_add_def, ih, cx_sm_cons]
    congr 1
    rw [cx_mul_D]
    by_cases h : ∃ u, u + x.2 = b
    · rw [dif_pos h]
      have hu := Classical.choose_spec h
      generalize Classical.choose h = u at hu
      subst hu
      have e : cx_D (u + x.2) (fun w v => f w * cx_cm x.1 x.2 v) = cx_D (u + x.2) (fun w v => if v = x.2 then x.1 * f u else 0) := by
        refine cx_D_congr (fun w v hwv => ?_)
        unfold cx_cm
        by_cases hv : v = x.2
        · have : w = u := by
            rw [hv] at hwv
            rw [cx_addC w, cx_addC u] at hwv
            exact cx_canc _ _ _ hwv
          rw [if_pos hv.symm, if_pos hv, this]; grind
        · rw [if_neg (fun e => hv e.symm), if_neg hv]; grind
      rw [e]
      have e2 : cx_D (u + x.2) (fun w v => if v = x.2 then x.1 * f u else 0) = cx_D (u + x.2) (fun w v => x.1 * f u * (cx_mon u w * cx_mon x.2 v)) := by
        refine cx_D_congr (fun w v hwv => ?_)
        unfold cx_mon
        by_cases hv : v = x.2
        · have : w = u := by
            rw [hv] at hwv
            rw [cx_addC w, cx_addC u] at hwv
            exact cx_canc _ _ _ hwv
          rw [if_pos hv, if_pos this, if_pos hv]; grind
        · rw [if_neg hv, if_neg hv]; grind
      rw [e2, cx_D_mulL, ← cx_mul_D, cx_mon_mul]
      unfold cx_mon
      rw [if_pos rfl]; grind
    · rw [dif_neg h]
      refine cx_D_zero (fun w v hwv => ?_)
      unfold cx_cm
      rw [if_neg (fun e => h ⟨w, by rw [e]; exact hwv⟩)]; grind
theorem cx_conv_some [Mul (cx_S Nat)] [One (cx_S Nat)] [Add (cx_S Nat)] [Zero (cx_S Nat)] [Inhabited (cx_Idx Nat)] [Inhabited (PLift cx_Natl)] {n : Nat} [Zero (cx_Ex n)] [Add (cx_Ex n)] [Mul (cx_S (cx_Ex n))] [One (cx_S (cx_Ex n))] [Add (cx_S (cx_Ex n))] [Zero (cx_S (cx_Ex n))] [Inhabited (cx_Idx (cx_Ex n))] [Inhabited (PLift (cx_Exl n))] [∀ s : cx_Sd n, Add (cx_MM s)] [∀ s : cx_Sd n, Inhabited (PLift (cx_MGl (cx_MM s)))] [∀ s : cx_Sd n, Inhabited (cx_Tord (cx_Ex n) (cx_MM s))] [Inhabited (PLift (cx_MMl n))] {f : cx_S (cx_Ex n)} {x : Rat × cx_Ex n} {b u : cx_Ex n} (h : u + x.2 = b) : (@dite _ (∃ u, u + x.2 = b) (Classical.propDecidable _) (fun h => x.1 * f (Classical.choose h)) (fun _ => 0)) = x.1 * f u := by
  classical
  have hex : ∃ u, u + x.2 = b := ⟨u, h⟩
  rw [dif_pos hex]
  have hu := Classical.choose_spec hex
  have : Classical.choose hex = u := by
    have e := hu.trans h.symm
    rw [cx_addC _ x.2, cx_addC u] at e
    exact cx_canc _ _ _ e
  rw [this]
theorem cx_ser_at [Mul (cx_S Nat)] [One (cx_S Nat)] [Add (cx_S Nat)] [Zero (cx_S Nat)] [Inhabited (cx_Idx Nat)] [Inhabited (PLift cx_Natl)] {n : Nat} [Zero (cx_Ex n)] [Add (cx_Ex n)] [Mul (cx_S (cx_Ex n))] [One (cx_S (cx_Ex n))] [Add (cx_S (cx_Ex n))] [Zero (cx_S (cx_Ex n))] [Inhabited (cx_Idx (cx_Ex n))] [Inhabited (PLift (cx_Exl n))] [∀ s : cx_Sd n, Add (cx_MM s)] [∀ s : cx_Sd n, Inhabited (PLift (cx_MGl (cx_MM s)))] [∀ s : cx_Sd n, Inhabited (cx_Tord (cx_Ex n) (cx_MM s))] [Inhabited (PLift (cx_MMl n))] (l : List (Rat × cx_Ex n)) (b : cx_Ex n) : cx_ser l b = cx_sm l (fun x => @ite _ (x.2 = b) (Classical.propDecidable _) x.1 0) := by
  induction l with
  | nil => rfl
  | cons x l ih => rw [cx_ser_cons, cx_add_def, ih]; rfl
theorem cx_RR.back [Mul (cx_S Nat)] [One (cx_S Nat)] [Add (cx_S Nat)] [Zero (cx_S Nat)] [Inhabited (cx_Idx Nat)] [Inhabited (PLift cx_Natl)] {n : Nat} {ι : Type} [Zero (cx_Ex n)] [Add (cx_Ex n)] [Mul (cx_S (cx_Ex n))] [One (cx_S (cx_Ex n))] [Add (cx_S (cx_Ex n))] [Zero (cx_S (cx_Ex n))] [Inhabited (cx_Idx (cx_Ex n))] [Inhabited (PLift (cx_Exl n))] [∀ s : cx_Sd n, Add (cx_MM s)] [∀ s : cx_Sd n, Inhabited (PLift (cx_MGl (cx_MM s)))] [∀ s : cx_Sd n, Inhabited (cx_Tord (cx_Ex n) (cx_MM s))] [Inhabited (PLift (cx_MMl n))] {s : cx_Sd n} {k : Fin n} {ρ : Fin n → Nat} (hρ : cx_Rho s k ρ) {F : cx_MM s → cx_S (cx_Ex n)} (sF : cx_Sup (cx_Sv (cx_dl k) (cx_vv ρ k)) F) (uF : ∀ m, F m 0 = 1) (m : cx_MM (cx_turn s k)) {y y' : ι → cx_Ex n → Rat} (hy : cx_Mul1 y)
    (hyy : ∀ i N a, a k ≤ cx_rw_ ρ a + N → y i (cx_tN ρ k N a) = y i (cx_nsm N (cx_ee k)) * y' i a) {v : ι → Rat} (h : cx_RR y' (cx_trS s k ρ F m) v) : cx_RR y (F (cx_mu (cx_turn s k) s k ρ m)) v := by
  classical
  obtain ⟨P, Q, p1, q1, z1, e1, w1⟩ := h.ex
  let f' := cx_trS s k ρ F m
  let f := F (cx_mu (cx_turn s k) s k ρ m)

  obtain ⟨N, hN⟩ : ∃ N, ∀ x ∈ P ++ Q, x.2 k ≤ N := by
    generalize P ++ Q = l
    induction l with
    | nil => exact ⟨0, fun x hx => by simp at hx⟩
    | cons z l ih =>
      obtain ⟨N, hN⟩ := ih
      exact ⟨max N (z.2 k), fun x hx => by
        rcases List.mem_cons.1 hx with rfl | hx
        · exact Nat.le_max_right _ _
        · exact Nat.le_trans (hN x hx) (Nat.le_max_left _ _)⟩
  have lift : ∀ x ∈ P ++ Q, x.2 k ≤ cx_rw_ ρ x.2 + N := fun x hx => by have := hN x hx; omega
  let tl : List (Rat × cx_Ex n) → List (Rat × cx_Ex n) := fun l => l.map fun x => (x.1, cx_tN ρ k N x.2)
  have nn : ∀ {l}, cx_Nn l → cx_Nn (tl l) := fun hl x hx => by
    obtain ⟨z, hz, rfl⟩ := List.mem_map.1 hx
    exact hl z hz
  have nzl : cx_Nz (tl Q) := by
    obtain ⟨x, hx, hp⟩ := z1
    exact ⟨_, List.mem_map.2 ⟨x, hx, rfl⟩, hp⟩
  have cx_vl : ∀ (l : List (Rat × cx_Ex n)), (∀ x ∈ l, x ∈ P ++ Q) → ∀ i, cx_val (y i) (tl l) = y i (cx_nsm N (cx_ee k)) * cx_val (y' i) l := by
    intro l hl i
    unfold cx_val
    show cx_sm (l.map fun x => (x.1, cx_tN ρ k N x.2)) _ = _
    rw [cx_sm_map, ← cx_sm_mulL]
    exact cx_sm_congr (fun x hx => by rw [hyy i N x.2 (lift x (hl x hx))]; grind)
  refine ⟨tl P, tl Q, nn p1, nn q1, nzl, ?_, fun i => ?_⟩
  · refine cx_S.ext (fun b => ?_)
    rw [cx_ser_conv, cx_ser_at]
    show cx_sm (Q.map fun x => (x.1, cx_tN ρ k N x.2)) _ = cx_sm (P.map fun x => (x.1, cx_tN ρ k N x.2)) _
    rw [cx_sm_map, cx_sm_map]
    by_cases hb : b k ≤ cx_rw_ ρ b + N
    ·
      let b' := cx_tN ρ k N b
      have hb'k : b' k = cx_rw_ ρ b + N - b k := cx_dn_k _ _ _
      have e := congrFun e1 b'
      rw [cx_ser_conv, cx_ser_at] at e
      refine Eq.trans ?_ (Eq.trans e ?_)
      · refine cx_sm_congr (fun x hx => ?_)
        have hx' := lift x (by simp [hx])
        by_cases hu : ∃ u, u + cx_tN ρ k N x.2 = b
        · obtain ⟨u, hu⟩ := hu
          rw [cx_conv_some (x := (x.1, cx_tN ρ k N x.2)) (f := f) hu]
          have huk : u k + (cx_rw_ ρ x.2 + N - x.2 k) = b k := by
            have := congrFun hu k
            rw [cx_ex_add] at this
            unfold cx_tN at this
            rw [cx_dn_k] at this
            exact this
          have hui : ∀ i, i ≠ k → u i + x.2 i = b i := fun i hi => by
            have := congrFun hu i
            rw [cx_ex_add] at this
            unfold cx_tN at this
            rw [cx_dn_ne _ _ hi] at this
            exact this
          have hrw : cx_rw_ ρ u + cx_rw_ ρ x.2 = cx_rw_ ρ b := by
            rw [← cx_rw_add]
            have : cx_rw_ ρ (u + x.2) = cx_rw_ ρ (cx_dn (u + x.2) k (b k)) := (cx_rw_dn hρ.k0 _ _).symm
            rw [this]
            congr 1
            funext i
            by_cases hi : i = k
            · subst hi; exact cx_dn_k _ _ _
            · rw [cx_dn_ne _ _ hi, cx_ex_add]; exact hui i hi
          by_cases huu : u k ≤ cx_rw_ ρ u
          ·
            have hsum : cx_th ρ k u + x.2 = b' := by
              funext i
              rw [cx_ex_add]
              unfold cx_th
              by_cases hi : i = k
              · subst hi; rw [cx_dn_k, hb'k]; omega
              · rw [cx_dn_ne _ _ hi]
                show u i + x.2 i = cx_dn b k _ i
                rw [cx_dn_ne _ _ hi]; exact hui i hi
            rw [cx_conv_some (x := x) (f := f') hsum]
            congr 1
            show F (cx_mu (cx_turn s k) s k ρ m) u = cx_trS s k ρ F m (cx_th ρ k u)
            by_cases hu0 : u = 0
            · rw [hu0, uF, (cx_trn hρ).z0, cx_trS_zero]
            · by_cases hd : 0 < cx_dl k u
              · have hS : cx_Sv (cx_dl k) (cx_vv ρ k) u := (cx_sv_iff ρ k u).2 ⟨hd, huu⟩
                rw [cx_trS_in hρ F m (cx_th_sv hρ.k0 hS), cx_th_th hρ.k0 huu]
              · exfalso
                have hd0 : cx_dl k u = 0 := by have := (cx_kd s k).dl0 u; grind
                obtain ⟨j, rfl⟩ := (cx_kd s k).ray u hd0
                have h1 : cx_rw_ ρ (cx_nsm j (cx_ee k)) = 0 := by
                  unfold cx_rw_
                  refine cx_nsum_zero (fun i => ?_)
                  rw [cx_ray_at]
                  by_cases hi : i = k
                  · subst hi; rw [hρ.k0]; omega
                  · rw [if_neg hi]; omega
                rw [h1, cx_ray_at, if_pos rfl] at huu
                have : j = 0 := by omega
                subst this
                exact hu0 rfl
          ·
            have hz : F (cx_mu (cx_turn s k) s k ρ m) u = 0 := sF _ u (fun e => huu (by rw [e, cx_rw_zero, cx_ex_zero]; omega)) (fun hS => huu ((cx_sv_iff ρ k u).1 hS).2)
            show x.1 * F (cx_mu (cx_turn s k) s k ρ m) u = _
            rw [hz, Rat.mul_zero]
            symm
            by_cases hu' : ∃ u', u' + x.2 = b'
            · exfalso
              obtain ⟨u', hu'⟩ := hu'
              have := congrFun hu' k
              rw [cx_ex_add, hb'k] at this
              omega
            · rw [dif_neg hu']
        · rw [dif_neg hu]
          symm
          by_cases hu' : ∃ u', u' + x.2 = b'
          · obtain ⟨u', hu'⟩ := hu'
            rw [cx_conv_some (x := x) (f := f') hu']
            have huk : u' k + x.2 k = cx_rw_ ρ b + N - b k := by
              have := congrFun hu' k
              rw [cx_ex_add, hb'k] at this
              exact this
            have hui : ∀ i, i ≠ k → u' i + x.2 i = b i := fun i hi => by
              have := congrFun hu' i
              rw [cx_ex_add] at this
              rw [this]; exact cx_dn_ne _ _ hi
            have hrw : cx_rw_ ρ u' + cx_rw_ ρ x.2 = cx_rw_ ρ b := by
              rw [← cx_rw_add]
              have : cx_rw_ ρ (u' + x.2) = cx_rw_ ρ (cx_dn (u' + x.2) k (b k)) := (cx_rw_dn hρ.k0 _ _).symm
              rw [this]
              congr 1
              funext i
              by_cases hi : i = k
              · subst hi; exact cx_dn_k _ _ _
              · rw [cx_dn_ne _ _ hi, cx_ex_add]; exact hui i hi
            have hno : ¬ u' k ≤ cx_rw_ ρ u' := fun hle => hu ⟨cx_th ρ k u', by
              funext i
              rw [cx_ex_add]
              unfold cx_th cx_tN
              by_cases hi : i = k
              · subst hi; rw [cx_dn_k, cx_dn_k]; omega
              · rw [cx_dn_ne _ _ hi, cx_dn_ne _ _ hi]; exact hui i hi⟩
            have hz : cx_trS s k ρ F m u' = 0 := cx_trS_out F m (fun e => hno (by rw [e, cx_rw_zero, cx_ex_zero]; omega)) (fun hS => hno ((cx_sv_iff ρ k u').1 hS).2)
            show x.1 * cx_trS s k ρ F m u' = 0
            rw [hz, Rat.mul_zero]
          · rw [dif_neg hu']
      · refine cx_sm_congr (fun x hx => ?_)
        have hx' := lift x (by simp [hx])
        by_cases he : x.2 = b'
        · rw [if_pos he, if_pos]
          show cx_tN ρ k N x.2 = b
          rw [he]
          unfold b' cx_tN
          rw [cx_dn_dn, cx_rw_dn hρ.k0, cx_dn_k, show cx_rw_ ρ b + N - (cx_rw_ ρ b + N - b k) = b k by omega, cx_dn_self]
        · rw [if_neg he, if_neg]
          intro e
          apply he
          have e : cx_tN ρ k N x.2 = b := e
          unfold b'
          rw [← e]
          unfold cx_tN
          rw [cx_dn_dn, cx_rw_dn hρ.k0, cx_dn_k, show cx_rw_ ρ x.2 + N - (cx_rw_ ρ x.2 + N - x.2 k) = x.2 k by omega, cx_dn_self]
    · rw [cx_sm_zero (fun x hx => ?_), cx_sm_zero (fun x hx => ?_)]
      · rw [if_neg]
        intro e
        have e : cx_tN ρ k N x.2 = b := e
        apply hb
        rw [← e]
        unfold cx_tN
        rw [cx_rw_dn hρ.k0, cx_dn_k]; omega
      · have hx' := lift x (by simp [hx])
        by_cases hu : ∃ u, u + cx_tN ρ k N x.2 = b
        · obtain ⟨u, hu⟩ := hu
          rw [cx_conv_some (x := (x.1, cx_tN ρ k N x.2)) (f := f) hu]
          have huk : u k + (cx_rw_ ρ x.2 + N - x.2 k) = b k := by
            have := congrFun hu k
            rw [cx_ex_add] at this
            unfold cx_tN at this
            rw [cx_dn_k] at this
            exact this
          have hui : ∀ i, i ≠ k → u i + x.2 i = b i := fun i hi => by
            have := congrFun hu i
            rw [cx_ex_add] at this
            unfold cx_tN at this
            rw [cx_dn_ne _ _ hi] at this
            exact this
          have hrw : cx_rw_ ρ u + cx_rw_ ρ x.2 = cx_rw_ ρ b := by
            rw [← cx_rw_add]
            have : cx_rw_ ρ (u + x.2) = cx_rw_ ρ (cx_dn (u + x.2) k (b k)) := (cx_rw_dn hρ.k0 _ _).symm
            rw [this]
            congr 1
            funext i
            by_cases hi : i = k
            · subst hi; exact cx_dn_k _ _ _
            · rw [cx_dn_ne _ _ hi, cx_ex_add]; exact hui i hi
          have hz : F (cx_mu (cx_turn s k) s k ρ m) u = 0 := sF _ u (fun e => by rw [e, cx_rw_zero] at hrw; rw [e, cx_ex_zero] at huk; omega) (fun hS => by have := ((cx_sv_iff ρ k u).1 hS).2; omega)
          show x.1 * F (cx_mu (cx_turn s k) s k ρ m) u = 0
          rw [hz, Rat.mul_zero]
        · rw [dif_neg hu]
  · rw [cx_vl P (fun x hx => by simp [hx]) i, cx_vl Q (fun x hx => by simp [hx]) i, ← w1 i]; grind
end

section
def cx_iz [Mul (cx_S Nat)] [One (cx_S Nat)] [Add (cx_S Nat)] [Zero (cx_S Nat)] [Inhabited (cx_Idx Nat)] [Inhabited (PLift cx_Natl)]  (r : Rat) : Int := r.num
theorem cx_iz_cast [Mul (cx_S Nat)] [One (cx_S Nat)] [Add (cx_S Nat)] [Zero (cx_S Nat)] [Inhabited (cx_Idx Nat)] [Inhabited (PLift cx_Natl)]  (z : Int) : cx_iz (z : Rat) = z := by unfold cx_iz; simp
theorem cx_iz_eq [Mul (cx_S Nat)] [One (cx_S Nat)] [Add (cx_S Nat)] [Zero (cx_S Nat)] [Inhabited (cx_Idx Nat)] [Inhabited (PLift cx_Natl)]  {r : Rat} (h : cx_IsI r) : ((cx_iz r : Int) : Rat) = r := by obtain ⟨z, rfl⟩ := h; rw [cx_iz_cast]
theorem cx_iz_inj [Mul (cx_S Nat)] [One (cx_S Nat)] [Add (cx_S Nat)] [Zero (cx_S Nat)] [Inhabited (cx_Idx Nat)] [Inhabited (PLift cx_Natl)]  {r : Rat} {z : Int} (h : r = (z : Rat)) : cx_iz r = z := by rw [h, cx_iz_cast]
theorem cx_iz_add [Mul (cx_S Nat)] [One (cx_S Nat)] [Add (cx_S Nat)] [Zero (cx_S Nat)] [Inhabited (cx_Idx Nat)] [Inhabited (PLift cx_Natl)]  {r r' : Rat} (h : cx_IsI r) (h' : cx_IsI r') : cx_iz (r + r') = cx_iz r + cx_iz r' := by
  obtain ⟨z, rfl⟩ := h
  obtain ⟨z', rfl⟩ := h'
  have : (z : Rat) + (z' : Rat) = ((z + z' : Int) : Rat) := by exact_mod_cast rfl
  rw [this, cx_iz_cast, cx_iz_cast, cx_iz_cast]
theorem cx_iz_neg [Mul (cx_S Nat)] [One (cx_S Nat)] [Add (cx_S Nat)] [Zero (cx_S Nat)] [Inhabited (cx_Idx Nat)] [Inhabited (PLift cx_Natl)]  {r : Rat} (h : cx_IsI r) : cx_iz (- r) = - cx_iz r := by
  obtain ⟨z, rfl⟩ := h
  have : -(z : Rat) = ((-z : Int) : Rat) := by exact_mod_cast rfl
  rw [this, cx_iz_cast, cx_iz_cast]
theorem cx_IsI.neg [Mul (cx_S Nat)] [One (cx_S Nat)] [Add (cx_S Nat)] [Zero (cx_S Nat)] [Inhabited (cx_Idx Nat)] [Inhabited (PLift cx_Natl)]  {r : Rat} (h : cx_IsI r) : cx_IsI (- r) := by
  obtain ⟨z, rfl⟩ := h
  exact ⟨-z, by exact_mod_cast rfl⟩
theorem cx_ZZ.add [Mul (cx_S Nat)] [One (cx_S Nat)] [Add (cx_S Nat)] [Zero (cx_S Nat)] [Inhabited (cx_Idx Nat)] [Inhabited (PLift cx_Natl)] {n : Nat} [Zero (cx_Ex n)] [Add (cx_Ex n)] [Mul (cx_S (cx_Ex n))] [One (cx_S (cx_Ex n))] [Add (cx_S (cx_Ex n))] [Zero (cx_S (cx_Ex n))] [Inhabited (cx_Idx (cx_Ex n))] [Inhabited (PLift (cx_Exl n))] [∀ s : cx_Sd n, Add (cx_MM s)] [∀ s : cx_Sd n, Inhabited (PLift (cx_MGl (cx_MM s)))] [∀ s : cx_Sd n, Inhabited (cx_Tord (cx_Ex n) (cx_MM s))] [Inhabited (PLift (cx_MMl n))] {s : cx_Sd n} {m m' : cx_MM s} (h : cx_ZZ s m) (h' : cx_ZZ s m') : cx_ZZ s (m + m') := fun i => by rw [cx_mm_add]; exact (h i).add (h' i)
theorem cx_neg_v {n : Nat} [Zero (cx_Ex n)] [Add (cx_Ex n)] [Mul (cx_S (cx_Ex n))] [One (cx_S (cx_Ex n))] [Add (cx_S (cx_Ex n))] [Zero (cx_S (cx_Ex n))] [Inhabited (cx_Idx (cx_Ex n))] [Inhabited (PLift (cx_Exl n))] [∀ s : cx_Sd n, Add (cx_MM s)] [∀ s : cx_Sd n, Inhabited (PLift (cx_MGl (cx_MM s)))] [∀ s : cx_Sd n, Inhabited (cx_Tord (cx_Ex n) (cx_MM s))] [Inhabited (PLift (cx_MMl n))] (s : cx_Sd n) (m : cx_MM s) (i : Fin n) : (cx_neg (B := cx_Ex n) m).v i = - m.v i := ((default : PLift (cx_MMl n)).down s).2.2.2 m i
theorem cx_ZZ.neg [Mul (cx_S Nat)] [One (cx_S Nat)] [Add (cx_S Nat)] [Zero (cx_S Nat)] [Inhabited (cx_Idx Nat)] [Inhabited (PLift cx_Natl)] {n : Nat} [Zero (cx_Ex n)] [Add (cx_Ex n)] [Mul (cx_S (cx_Ex n))] [One (cx_S (cx_Ex n))] [Add (cx_S (cx_Ex n))] [Zero (cx_S (cx_Ex n))] [Inhabited (cx_Idx (cx_Ex n))] [Inhabited (PLift (cx_Exl n))] [∀ s : cx_Sd n, Add (cx_MM s)] [∀ s : cx_Sd n, Inhabited (PLift (cx_MGl (cx_MM s)))] [∀ s : cx_Sd n, Inhabited (cx_Tord (cx_Ex n) (cx_MM s))] [Inhabited (PLift (cx_MMl n))] {s : cx_Sd n} {m : cx_MM s} (h : cx_ZZ s m) : cx_ZZ s (cx_neg (B := cx_Ex n) m) := fun i => by rw [cx_neg_v]; exact (h i).neg
theorem cx_p0_v [Mul (cx_S Nat)] [One (cx_S Nat)] [Add (cx_S Nat)] [Zero (cx_S Nat)] [Inhabited (cx_Idx Nat)] [Inhabited (PLift cx_Natl)] {n : Nat} [Zero (cx_Ex n)] [Add (cx_Ex n)] [Mul (cx_S (cx_Ex n))] [One (cx_S (cx_Ex n))] [Add (cx_S (cx_Ex n))] [Zero (cx_S (cx_Ex n))] [Inhabited (cx_Idx (cx_Ex n))] [Inhabited (PLift (cx_Exl n))] [∀ s : cx_Sd n, Add (cx_MM s)] [∀ s : cx_Sd n, Inhabited (PLift (cx_MGl (cx_MM s)))] [∀ s : cx_Sd n, Inhabited (cx_Tord (cx_Ex n) (cx_MM s))] [Inhabited (PLift (cx_MMl n))] (s : cx_Sd n) (i : Fin n) : (cx_p (0 : cx_Ex n) : cx_MM s).v i = 0 := by
  rw [cx_p_def]
  exact cx_sm_zero (fun j _ => by rw [cx_ex_zero, show ((0 : Nat) : Rat) = 0 from rfl, Rat.mul_zero])
abbrev cx_MulZ [Mul (cx_S Nat)] [One (cx_S Nat)] [Add (cx_S Nat)] [Zero (cx_S Nat)] [Inhabited (cx_Idx Nat)] [Inhabited (PLift cx_Natl)] {n : Nat} {ι : Type} [Zero (cx_Ex n)] [Add (cx_Ex n)] [Mul (cx_S (cx_Ex n))] [One (cx_S (cx_Ex n))] [Add (cx_S (cx_Ex n))] [Zero (cx_S (cx_Ex n))] [Inhabited (cx_Idx (cx_Ex n))] [Inhabited (PLift (cx_Exl n))] [∀ s : cx_Sd n, Add (cx_MM s)] [∀ s : cx_Sd n, Inhabited (PLift (cx_MGl (cx_MM s)))] [∀ s : cx_Sd n, Inhabited (cx_Tord (cx_Ex n) (cx_MM s))] [Inhabited (PLift (cx_MMl n))] (s : cx_Sd n) (X : ι → cx_MM s → Rat) : Prop := (∀ i m, cx_ZZ s m → 0 < X i m) ∧ (∀ i m m', cx_ZZ s m → cx_ZZ s m' → X i (m + m') = X i m * X i m')
theorem cx_MulZ.pos [Mul (cx_S Nat)] [One (cx_S Nat)] [Add (cx_S Nat)] [Zero (cx_S Nat)] [Inhabited (cx_Idx Nat)] [Inhabited (PLift cx_Natl)] {n : Nat} {ι : Type} [Zero (cx_Ex n)] [Add (cx_Ex n)] [Mul (cx_S (cx_Ex n))] [One (cx_S (cx_Ex n))] [Add (cx_S (cx_Ex n))] [Zero (cx_S (cx_Ex n))] [Inhabited (cx_Idx (cx_Ex n))] [Inhabited (PLift (cx_Exl n))] [∀ s : cx_Sd n, Add (cx_MM s)] [∀ s : cx_Sd n, Inhabited (PLift (cx_MGl (cx_MM s)))] [∀ s : cx_Sd n, Inhabited (cx_Tord (cx_Ex n) (cx_MM s))] [Inhabited (PLift (cx_MMl n))] {s : cx_Sd n} {X : ι → cx_MM s → Rat} (hh_ : cx_MulZ s X) : ∀ i m, cx_ZZ s m → 0 < X i m := hh_.1
theorem cx_MulZ.add [Mul (cx_S Nat)] [One (cx_S Nat)] [Add (cx_S Nat)] [Zero (cx_S Nat)] [Inhabited (cx_Idx Nat)] [Inhabited (PLift cx_Natl)] {n : Nat} {ι : Type} [Zero (cx_Ex n)] [Add (cx_Ex n)] [Mul (cx_S (cx_Ex n))] [One (cx_S (cx_Ex n))] [Add (cx_S (cx_Ex n))] [Zero (cx_S (cx_Ex n))] [Inhabited (cx_Idx (cx_Ex n))] [Inhabited (PLift (cx_Exl n))] [∀ s : cx_Sd n, Add (cx_MM s)] [∀ s : cx_Sd n, Inhabited (PLift (cx_MGl (cx_MM s)))] [∀ s : cx_Sd n, Inhabited (cx_Tord (cx_Ex n) (cx_MM s))] [Inhabited (PLift (cx_MMl n))] {s : cx_Sd n} {X : ι → cx_MM s → Rat} (hh_ : cx_MulZ s X) : ∀ i m m', cx_ZZ s m → cx_ZZ s m' → X i (m + m') = X i m * X i m' := hh_.2
theorem cx_zp_add [Mul (cx_S Nat)] [One (cx_S Nat)] [Add (cx_S Nat)] [Zero (cx_S Nat)] [Inhabited (cx_Idx Nat)] [Inhabited (PLift cx_Natl)]  {x : Rat} (h : 0 < x) (a b : Int) : x ^ (a + b) = x ^ a * x ^ b := Rat.zpow_add (by grind) a b
theorem cx_pow_RR [Mul (cx_S Nat)] [One (cx_S Nat)] [Add (cx_S Nat)] [Zero (cx_S Nat)] [Inhabited (cx_Idx Nat)] [Inhabited (PLift cx_Natl)] {n : Nat} {ι : Type} [Zero (cx_Ex n)] [Add (cx_Ex n)] [Mul (cx_S (cx_Ex n))] [One (cx_S (cx_Ex n))] [Add (cx_S (cx_Ex n))] [Zero (cx_S (cx_Ex n))] [Inhabited (cx_Idx (cx_Ex n))] [Inhabited (PLift (cx_Exl n))] [∀ s : cx_Sd n, Add (cx_MM s)] [∀ s : cx_Sd n, Inhabited (PLift (cx_MGl (cx_MM s)))] [∀ s : cx_Sd n, Inhabited (cx_Tord (cx_Ex n) (cx_MM s))] [Inhabited (PLift (cx_MMl n))] {s : cx_Sd n} {k : Fin n} {c : Rat} {F : cx_MM s → cx_S (cx_Ex n)} (gF : cx_Good F) {e : cx_MM s} (ze : cx_ZZ s e) (he : c * cx_pr (cx_ee k) e = 1) (hc : ∀ m, cx_ZZ s m → cx_IsI (c * cx_pr (cx_ee k) m))
    {y : ι → cx_Ex n → Rat} (hy : cx_Mul1 y) {vF : ι → cx_MM s → Rat} (hv : cx_MulZ s vF) (hF : ∀ m, cx_ZZ s m → cx_RR y (F m) (fun i => vF i m)) :
    ∀ m, cx_ZZ s m → cx_RR y (cx_comp F (cx_E (cx_ee k) c) m) (fun i => vF i m * (1 + y i (cx_ee k) * vF i (cx_p (cx_ee k))) ^ cx_iz (c * cx_pr (cx_ee k) m)) := by
  let A : ι → Rat := fun i => 1 + y i (cx_ee k) * vF i (cx_p (cx_ee k))
  have hA : ∀ i, 0 < A i := fun i => by
    have := Rat.mul_pos (hy.pos i (cx_ee k)) (hv.pos i _ (cx_ZZ_p s (cx_ee k)))
    show 0 < 1 + _
    grind
  let f := cx_comp F (cx_E (cx_ee k) c)
  have gf : cx_Good f := gF.comp (cx_E_good (cx_ee_nz k) c)
  have f0 : ∀ m, c * cx_pr (cx_ee k) m = 0 → f m = F m := by
    intro m hm
    show cx_comp F (cx_E (cx_ee k) c) m = _
    rw [cx_comp_lin]
    have : (cx_E (cx_ee k) c : cx_MM s → cx_S (cx_Ex n)) m = 1 := by
      show cx_sub (cx_ee k) (cx_bin (c * cx_pr (cx_ee k) m)) = 1
      rw [hm, cx_sub_zero (cx_ee_nz k)]
    rw [this, cx_one_act]
  have fe : f e = F e * (1 + cx_mon (cx_ee k) * F (cx_p (cx_ee k))) := by
    show cx_comp F (cx_E (cx_ee k) c) e = _
    rw [cx_comp_lin]
    have : (cx_E (cx_ee k) c : cx_MM s → cx_S (cx_Ex n)) e = 1 + cx_mon (cx_ee k) := by
      show cx_sub (cx_ee k) (cx_bin (c * cx_pr (cx_ee k) e)) = _
      rw [he, cx_sub_one (cx_ee_nz k)]
    rw [this, cx_lin_add, cx_one_act, cx_mon_act, gF.hom, cx_mulD, cx_mul1]
    congr 1
    rw [← cx_mulA, cx_mulC (cx_mon (cx_ee k)), cx_mulA]
  let ne : cx_MM s := cx_neg (B := cx_Ex n) e
  have zne : cx_ZZ s ne := ze.neg
  have hene : e + ne = cx_p (0 : cx_Ex n) := cx_neg_add e
  have Fne : F ne * F e = 1 := by rw [cx_mulC, ← gF.hom, hene, gF.zero]
  have fne : f e * f ne = 1 := by rw [← gf.hom, hene, gf.zero]
  have hpl := cx_RR.plus hy (hF _ (cx_ZZ_p s (cx_ee k))) (cx_ee k)
  have rfe : cx_RR y (f e) (fun i => vF i e * A i) := by rw [fe]; exact (hF e ze).mul hy hpl.1
  have rfne : cx_RR y (f ne) (fun i => vF i ne * (A i)⁻¹) := by
    have h1 : (1 + cx_mon (cx_ee k) * F (cx_p (cx_ee k))) * (F e * f ne) = 1 := by
      rw [← cx_mulA, cx_mulC _ (F e), ← fe, fne]
    have h2 := (hF ne zne).mul hy (hpl.2 _ h1)
    refine h2.congr ?_ (fun i => rfl)
    rw [← cx_mulA, Fne, cx_one_mul']
  have hne1 : c * cx_pr (cx_ee k) ne = -1 := by
    show c * cx_pr (cx_ee k) (cx_neg (B := cx_Ex n) e) = -1
    rw [cx_pr_neg]; grind
  have eqv : ∀ m : cx_MM s, (m + ne) + e = m := fun m => cx_MM.ext fun i => by rw [cx_mm_add, cx_mm_add, cx_neg_v]; grind
  have eqv2 : ∀ m : cx_MM s, (m + e) + ne = m := fun m => cx_MM.ext fun i => by rw [cx_mm_add, cx_mm_add, cx_neg_v]; grind
  have up : ∀ j : Nat, ∀ m, cx_ZZ s m → c * cx_pr (cx_ee k) m = (j : Rat) → cx_RR y (f m) (fun i => vF i m * A i ^ (j : Int)) := by
    intro j
    induction j with
    | zero =>
      intro m zm hm
      rw [f0 m hm]
      refine (hF m zm).congr rfl (fun i => ?_)
      show _ = vF i m * A i ^ (0 : Int)
      rw [Rat.zpow_zero]; grind
    | succ j ih =>
      intro m zm hm
      have h1 := ih (m + ne) (zm.add zne) (by rw [cx_pr_addR, Rat.mul_add, hm, hne1, cx_castR]; show _ + ((1 : Nat) : Rat) + -1 = _; rw [show ((1 : Nat) : Rat) = 1 from rfl]; grind)
      refine (h1.mul hy rfe).congr ?_ (fun i => ?_)
      · rw [← gf.hom, eqv]
      · have e1 : ((j + 1 : Nat) : Int) = (j : Int) + 1 := by omega
        rw [e1, cx_zp_add (hA i), Rat.zpow_one]
        have e2 := hv.add i (m + ne) e (zm.add zne) ze
        rw [eqv] at e2
        rw [e2]; grind
  have down : ∀ j : Nat, ∀ m, cx_ZZ s m → c * cx_pr (cx_ee k) m = -(j : Rat) → cx_RR y (f m) (fun i => vF i m * A i ^ (-(j : Int))) := by
    intro j
    induction j with
    | zero =>
      intro m zm hm
      rw [f0 m (by rw [hm]; rfl)]
      refine (hF m zm).congr rfl (fun i => ?_)
      show _ = vF i m * A i ^ (-(0 : Int))
      rw [Int.neg_zero, Rat.zpow_zero]; grind
    | succ j ih =>
      intro m zm hm
      have h1 := ih (m + e) (zm.add ze) (by rw [cx_pr_addR, Rat.mul_add, hm, he, cx_castR, show ((1 : Nat) : Rat) = 1 from rfl]; grind)
      refine (h1.mul hy rfne).congr ?_ (fun i => ?_)
      · rw [← gf.hom, eqv2]
      · have e1 : -((j + 1 : Nat) : Int) = -(j : Int) + (-1) := by omega
        rw [e1, cx_zp_add (hA i), Rat.zpow_neg _ 1, Rat.zpow_one]
        have e2 := hv.add i (m + e) ne (zm.add ze) zne
        rw [eqv2] at e2
        rw [e2]; grind
  intro m zm
  obtain ⟨z, hz⟩ := hc m zm
  rw [cx_iz_inj hz]
  rcases Int.eq_nat_or_neg z with ⟨j, rfl | rfl⟩
  · exact up j m zm (by rw [hz]; exact_mod_cast rfl)
  · exact down j m zm (by rw [hz]; exact_mod_cast rfl)
def cx_St [Mul (cx_S Nat)] [One (cx_S Nat)] [Add (cx_S Nat)] [Zero (cx_S Nat)] [Inhabited (cx_Idx Nat)] [Inhabited (PLift cx_Natl)] {n : Nat} {ι : Type} [Zero (cx_Ex n)] [Add (cx_Ex n)] [Mul (cx_S (cx_Ex n))] [One (cx_S (cx_Ex n))] [Add (cx_S (cx_Ex n))] [Zero (cx_S (cx_Ex n))] [Inhabited (cx_Idx (cx_Ex n))] [Inhabited (PLift (cx_Exl n))] [∀ s : cx_Sd n, Add (cx_MM s)] [∀ s : cx_Sd n, Inhabited (PLift (cx_MGl (cx_MM s)))] [∀ s : cx_Sd n, Inhabited (cx_Tord (cx_Ex n) (cx_MM s))] [Inhabited (PLift (cx_MMl n))] (s : cx_Sd n) (V X : ι → cx_MM s → Rat) (t : cx_Ex n → Rat) : Prop := ∃ g f, cx_IsG s g ∧ cx_MnT cx_All g t f ∧ cx_Good f ∧ ∀ m, cx_ZZ s m → cx_RR (fun i b => X i (cx_p b)) (f m) (fun i => V i m * (X i m)⁻¹)
theorem cx_MulZ.mul1 [Mul (cx_S Nat)] [One (cx_S Nat)] [Add (cx_S Nat)] [Zero (cx_S Nat)] [Inhabited (cx_Idx Nat)] [Inhabited (PLift cx_Natl)] {n : Nat} {ι : Type} [Zero (cx_Ex n)] [Add (cx_Ex n)] [Mul (cx_S (cx_Ex n))] [One (cx_S (cx_Ex n))] [Add (cx_S (cx_Ex n))] [Zero (cx_S (cx_Ex n))] [Inhabited (cx_Idx (cx_Ex n))] [Inhabited (PLift (cx_Exl n))] [∀ s : cx_Sd n, Add (cx_MM s)] [∀ s : cx_Sd n, Inhabited (PLift (cx_MGl (cx_MM s)))] [∀ s : cx_Sd n, Inhabited (cx_Tord (cx_Ex n) (cx_MM s))] [Inhabited (PLift (cx_MMl n))] {s : cx_Sd n} {X : ι → cx_MM s → Rat} (h : cx_MulZ s X) : cx_Mul1 (fun i (b : cx_Ex n) => X i (cx_p b)) := ⟨(fun i a b => by show X i (cx_p (a + b)) = X i (cx_p a) * X i (cx_p b); rw [cx_p_add]; exact h.add i _ _ (cx_ZZ_p s a) (cx_ZZ_p s b)),
  (fun i a => h.pos i _ (cx_ZZ_p s a))⟩
theorem cx_MulZ.quot [Mul (cx_S Nat)] [One (cx_S Nat)] [Add (cx_S Nat)] [Zero (cx_S Nat)] [Inhabited (cx_Idx Nat)] [Inhabited (PLift cx_Natl)] {n : Nat} {ι : Type} [Zero (cx_Ex n)] [Add (cx_Ex n)] [Mul (cx_S (cx_Ex n))] [One (cx_S (cx_Ex n))] [Add (cx_S (cx_Ex n))] [Zero (cx_S (cx_Ex n))] [Inhabited (cx_Idx (cx_Ex n))] [Inhabited (PLift (cx_Exl n))] [∀ s : cx_Sd n, Add (cx_MM s)] [∀ s : cx_Sd n, Inhabited (PLift (cx_MGl (cx_MM s)))] [∀ s : cx_Sd n, Inhabited (cx_Tord (cx_Ex n) (cx_MM s))] [Inhabited (PLift (cx_MMl n))] {s : cx_Sd n} {V X : ι → cx_MM s → Rat} (hV : cx_MulZ s V) (hX : cx_MulZ s X) : cx_MulZ s (fun i m => V i m * (X i m)⁻¹) := ⟨(fun i m hm => Rat.mul_pos (hV.pos i m hm) (Rat.inv_pos.2 (hX.pos i m hm))),
  (fun i m m' hm hm' => by
    show V i (m + m') * (X i (m + m'))⁻¹ = V i m * (X i m)⁻¹ * (V i m' * (X i m')⁻¹)
    rw [hV.add i m m' hm hm', hX.add i m m' hm hm', Rat.inv_mul_rev]; grind)⟩
theorem cx_mu_add [Mul (cx_S Nat)] [One (cx_S Nat)] [Add (cx_S Nat)] [Zero (cx_S Nat)] [Inhabited (cx_Idx Nat)] [Inhabited (PLift cx_Natl)] {n : Nat} [Zero (cx_Ex n)] [Add (cx_Ex n)] [Mul (cx_S (cx_Ex n))] [One (cx_S (cx_Ex n))] [Add (cx_S (cx_Ex n))] [Zero (cx_S (cx_Ex n))] [Inhabited (cx_Idx (cx_Ex n))] [Inhabited (PLift (cx_Exl n))] [∀ s : cx_Sd n, Add (cx_MM s)] [∀ s : cx_Sd n, Inhabited (PLift (cx_MGl (cx_MM s)))] [∀ s : cx_Sd n, Inhabited (cx_Tord (cx_Ex n) (cx_MM s))] [Inhabited (PLift (cx_MMl n))] (s s2 : cx_Sd n) (k : Fin n) (ρ : Fin n → Nat) (m m' : cx_MM s) : cx_mu s s2 k ρ (m + m') = cx_mu s s2 k ρ m + cx_mu s s2 k ρ m' := cx_MM.ext fun i => by
  rw [cx_mm_add]
  by_cases hi : i = k
  · subst hi; rw [cx_mu_k, cx_mu_k, cx_mu_k, cx_mm_add]; grind
  · rw [cx_mu_ne _ _ hi, cx_mu_ne _ _ hi, cx_mu_ne _ _ hi, cx_mm_add, cx_mm_add]; grind
theorem cx_zz_mu' [Mul (cx_S Nat)] [One (cx_S Nat)] [Add (cx_S Nat)] [Zero (cx_S Nat)] [Inhabited (cx_Idx Nat)] [Inhabited (PLift cx_Natl)] {n : Nat} [Zero (cx_Ex n)] [Add (cx_Ex n)] [Mul (cx_S (cx_Ex n))] [One (cx_S (cx_Ex n))] [Add (cx_S (cx_Ex n))] [Zero (cx_S (cx_Ex n))] [Inhabited (cx_Idx (cx_Ex n))] [Inhabited (PLift (cx_Exl n))] [∀ s : cx_Sd n, Add (cx_MM s)] [∀ s : cx_Sd n, Inhabited (PLift (cx_MGl (cx_MM s)))] [∀ s : cx_Sd n, Inhabited (cx_Tord (cx_Ex n) (cx_MM s))] [Inhabited (PLift (cx_MMl n))] {s : cx_Sd n} {k : Fin n} {ρ : Fin n → Nat} (hc : ∀ i, cx_IsI (cx_cc s k ρ i)) {m : cx_MM s} (hm : cx_ZZ s m) : cx_ZZ (cx_turn s k) (cx_mu s (cx_turn s k) k ρ m) := fun i => by
  by_cases hi : i = k
  · subst hi; rw [cx_mu_k]; exact (hm i).neg
  · rw [cx_mu_ne _ _ hi]; exact (hm i).add ((hc i).mul (hm k))
theorem cx_MulZ.mu [Mul (cx_S Nat)] [One (cx_S Nat)] [Add (cx_S Nat)] [Zero (cx_S Nat)] [Inhabited (cx_Idx Nat)] [Inhabited (PLift cx_Natl)] {n : Nat} {ι : Type} [Zero (cx_Ex n)] [Add (cx_Ex n)] [Mul (cx_S (cx_Ex n))] [One (cx_S (cx_Ex n))] [Add (cx_S (cx_Ex n))] [Zero (cx_S (cx_Ex n))] [Inhabited (cx_Idx (cx_Ex n))] [Inhabited (PLift (cx_Exl n))] [∀ s : cx_Sd n, Add (cx_MM s)] [∀ s : cx_Sd n, Inhabited (PLift (cx_MGl (cx_MM s)))] [∀ s : cx_Sd n, Inhabited (cx_Tord (cx_Ex n) (cx_MM s))] [Inhabited (PLift (cx_MMl n))] {s : cx_Sd n} {k : Fin n} {ρ : Fin n → Nat} (hc : ∀ i, cx_IsI (cx_cc s k ρ i)) {X : ι → cx_MM (cx_turn s k) → Rat} (h : cx_MulZ (cx_turn s k) X) : cx_MulZ s (fun i m => X i (cx_mu s (cx_turn s k) k ρ m)) := ⟨(fun i m hm => h.pos i _ (cx_zz_mu' hc hm)),
  (fun i m m' hm hm' => by show X i (cx_mu s (cx_turn s k) k ρ (m + m')) = X i (cx_mu s (cx_turn s k) k ρ m) * X i (cx_mu s (cx_turn s k) k ρ m'); rw [cx_mu_add]; exact h.add i _ _ (cx_zz_mu' hc hm) (cx_zz_mu' hc hm'))⟩
theorem cx_tN_fun [Mul (cx_S Nat)] [One (cx_S Nat)] [Add (cx_S Nat)] [Zero (cx_S Nat)] [Inhabited (cx_Idx Nat)] [Inhabited (PLift cx_Natl)] {n : Nat} [Zero (cx_Ex n)] [Add (cx_Ex n)] [Mul (cx_S (cx_Ex n))] [One (cx_S (cx_Ex n))] [Add (cx_S (cx_Ex n))] [Zero (cx_S (cx_Ex n))] [Inhabited (cx_Idx (cx_Ex n))] [Inhabited (PLift (cx_Exl n))] [∀ s : cx_Sd n, Add (cx_MM s)] [∀ s : cx_Sd n, Inhabited (PLift (cx_MGl (cx_MM s)))] [∀ s : cx_Sd n, Inhabited (cx_Tord (cx_Ex n) (cx_MM s))] [Inhabited (PLift (cx_MMl n))] {ρ : Fin n → Nat} {k : Fin n} (hk : ρ k = 0) {t : cx_Ex n → Rat} (ht : cx_Fun t) (N : Nat) {a : cx_Ex n} (ha : a k ≤ cx_rw_ ρ a + N) : t (cx_tN ρ k N a) = (N : Rat) * t (cx_ee k) + cx_pull ρ k t a := by
  rw [cx_fun_dt ht (cx_tN ρ k N a)]
  unfold cx_pull cx_dt
  have e0 : ((cx_tN ρ k N a) k : Rat) = (cx_rw_ ρ a : Rat) + (N : Rat) - (a k : Rat) := by
    unfold cx_tN; rw [cx_dn_k]
    have : ((cx_rw_ ρ a + N - a k + a k : Nat) : Rat) = ((cx_rw_ ρ a + N : Nat) : Rat) := by rw [Nat.sub_add_cancel ha]
    rw [cx_castR, cx_castR] at this
    grind
  rw [cx_fr_split k, cx_fr_split k (fun i => (if i = k then - t (cx_ee k) else t (cx_ee i) + (ρ i : Rat) * t (cx_ee k)) * (a i : Rat)), e0, if_pos rfl, cx_rw_cast]
  have : cx_sm (cx_fr n) (fun i => if i = k then 0 else (if i = k then - t (cx_ee k) else t (cx_ee i) + (ρ i : Rat) * t (cx_ee k)) * (a i : Rat))
      = cx_sm (cx_fr n) (fun i => if i = k then 0 else t (cx_ee i) * (cx_tN ρ k N a i : Rat)) + cx_sm (cx_fr n) (fun i => (ρ i : Rat) * (a i : Rat)) * t (cx_ee k) := by
    rw [← cx_sm_mulR, ← cx_sm_add]
    refine cx_sm_congr (fun i _ => ?_)
    by_cases hi : i = k
    · subst hi; rw [if_pos rfl, if_pos rfl, hk, show ((0 : Nat) : Rat) = 0 from rfl]; grind
    · rw [if_neg hi, if_neg hi, if_neg hi]
      have e2 : cx_tN ρ k N a i = a i := cx_dn_ne _ _ hi
      rw [e2]; grind
  rw [this]; grind
theorem cx_p_ee [Mul (cx_S Nat)] [One (cx_S Nat)] [Add (cx_S Nat)] [Zero (cx_S Nat)] [Inhabited (cx_Idx Nat)] [Inhabited (PLift cx_Natl)] {n : Nat} [Zero (cx_Ex n)] [Add (cx_Ex n)] [Mul (cx_S (cx_Ex n))] [One (cx_S (cx_Ex n))] [Add (cx_S (cx_Ex n))] [Zero (cx_S (cx_Ex n))] [Inhabited (cx_Idx (cx_Ex n))] [Inhabited (PLift (cx_Exl n))] [∀ s : cx_Sd n, Add (cx_MM s)] [∀ s : cx_Sd n, Inhabited (PLift (cx_MGl (cx_MM s)))] [∀ s : cx_Sd n, Inhabited (cx_Tord (cx_Ex n) (cx_MM s))] [Inhabited (PLift (cx_MMl n))] (s : cx_Sd n) (i j : Fin n) : (cx_p (cx_ee j) : cx_MM s).v i = (s.b i j : Rat) := by
  rw [cx_p_def]; exact cx_dt_ee (fun l => (s.b i l : Rat)) j
theorem cx_mu_tN [Mul (cx_S Nat)] [One (cx_S Nat)] [Add (cx_S Nat)] [Zero (cx_S Nat)] [Inhabited (cx_Idx Nat)] [Inhabited (PLift cx_Natl)] {n : Nat} [Zero (cx_Ex n)] [Add (cx_Ex n)] [Mul (cx_S (cx_Ex n))] [One (cx_S (cx_Ex n))] [Add (cx_S (cx_Ex n))] [Zero (cx_S (cx_Ex n))] [Inhabited (cx_Idx (cx_Ex n))] [Inhabited (PLift (cx_Exl n))] [∀ s : cx_Sd n, Add (cx_MM s)] [∀ s : cx_Sd n, Inhabited (PLift (cx_MGl (cx_MM s)))] [∀ s : cx_Sd n, Inhabited (cx_Tord (cx_Ex n) (cx_MM s))] [Inhabited (PLift (cx_MMl n))] {s : cx_Sd n} {k : Fin n} {ρ : Fin n → Nat} (hρ : cx_Rho s k ρ) (N : Nat) {a : cx_Ex n} (ha : a k ≤ cx_rw_ ρ a + N) :
    cx_mu s (cx_turn s k) k ρ (cx_p (cx_tN ρ k N a)) = cx_mu s (cx_turn s k) k ρ (cx_p (cx_nsm N (cx_ee k))) + cx_p a := cx_MM.ext fun i => by
  let G : cx_Ex n → Rat := fun b => (cx_mu s (cx_turn s k) k ρ (cx_p b)).v i
  have hG : cx_Fun G := ⟨fun x y => by show (cx_mu s (cx_turn s k) k ρ (cx_p (x + y))).v i = _; rw [cx_p_add, cx_mu_add, cx_mm_add]⟩
  have h1 := cx_tN_fun hρ.k0 hG N ha
  have h2 : G (cx_nsm N (cx_ee k)) = (N : Rat) * G (cx_ee k) := hG.nsm N (cx_ee k)
  rw [cx_mm_add]
  show G (cx_tN ρ k N a) = G (cx_nsm N (cx_ee k)) + _
  rw [h1, h2]
  congr 1
  rw [cx_p_def]
  show cx_dt _ a = cx_dt (fun j => ((cx_turn s k).b i j : Rat)) a
  refine cx_dt_congr (fun j => ?_) a
  have g : ∀ j, G (cx_ee j) = if i = k then - (s.b k j : Rat) else (s.b i j : Rat) + cx_cc s k ρ i * (s.b k j : Rat) := by
    intro j
    show (cx_mu s (cx_turn s k) k ρ (cx_p (cx_ee j))).v i = _
    by_cases hi : i = k
    · subst hi; rw [cx_mu_k, cx_p_ee, if_pos rfl]
    · rw [cx_mu_ne _ _ hi, cx_p_ee, cx_p_ee, if_neg hi]
  have z : (s.b k k : Rat) = 0 := by rw [s.self k]; rfl
  by_cases hj : j = k
  · subst hj
    rw [if_pos rfl, g, cx_turn_col]
    have e3 : ((- s.b i j : Int) : Rat) = - (s.b i j : Rat) := by exact_mod_cast rfl
    rw [e3]
    by_cases hi : i = j
    · subst hi; rw [if_pos rfl, z]; grind
    · rw [if_neg hi, z]; grind
  · rw [if_neg hj, g, g]
    by_cases hi : i = k
    · subst hi
      rw [if_pos rfl, if_pos rfl, z, cx_turn_row]
      have e3 : ((- s.b i j : Int) : Rat) = - (s.b i j : Rat) := by exact_mod_cast rfl
      rw [e3]; grind
    · rw [if_neg hi, if_neg hi, hρ.b' i j hi hj, z]
      unfold cx_cc
      grind
theorem cx_hyy_of [Mul (cx_S Nat)] [One (cx_S Nat)] [Add (cx_S Nat)] [Zero (cx_S Nat)] [Inhabited (cx_Idx Nat)] [Inhabited (PLift cx_Natl)] {n : Nat} {ι : Type} [Zero (cx_Ex n)] [Add (cx_Ex n)] [Mul (cx_S (cx_Ex n))] [One (cx_S (cx_Ex n))] [Add (cx_S (cx_Ex n))] [Zero (cx_S (cx_Ex n))] [Inhabited (cx_Idx (cx_Ex n))] [Inhabited (PLift (cx_Exl n))] [∀ s : cx_Sd n, Add (cx_MM s)] [∀ s : cx_Sd n, Inhabited (PLift (cx_MGl (cx_MM s)))] [∀ s : cx_Sd n, Inhabited (cx_Tord (cx_Ex n) (cx_MM s))] [Inhabited (PLift (cx_MMl n))] {s : cx_Sd n} {k : Fin n} {ρ : Fin n → Nat} (hρ : cx_Rho s k ρ) (hc : ∀ i, cx_IsI (cx_cc s k ρ i)) {X : ι → cx_MM (cx_turn s k) → Rat} (h : cx_MulZ (cx_turn s k) X) (i : ι) (N : Nat) (a : cx_Ex n) (ha : a k ≤ cx_rw_ ρ a + N) :
    X i (cx_mu s (cx_turn s k) k ρ (cx_p (cx_tN ρ k N a))) = X i (cx_mu s (cx_turn s k) k ρ (cx_p (cx_nsm N (cx_ee k)))) * X i (cx_p a) := by
  rw [cx_mu_tN hρ N ha]
  exact h.add i _ _ (cx_zz_mu' hc (cx_ZZ_p s _)) (cx_ZZ_p _ a)
def cx_un [Mul (cx_S Nat)] [One (cx_S Nat)] [Add (cx_S Nat)] [Zero (cx_S Nat)] [Inhabited (cx_Idx Nat)] [Inhabited (PLift cx_Natl)] {n : Nat} [Zero (cx_Ex n)] [Add (cx_Ex n)] [Mul (cx_S (cx_Ex n))] [One (cx_S (cx_Ex n))] [Add (cx_S (cx_Ex n))] [Zero (cx_S (cx_Ex n))] [Inhabited (cx_Idx (cx_Ex n))] [Inhabited (PLift (cx_Exl n))] [∀ s : cx_Sd n, Add (cx_MM s)] [∀ s : cx_Sd n, Inhabited (PLift (cx_MGl (cx_MM s)))] [∀ s : cx_Sd n, Inhabited (cx_Tord (cx_Ex n) (cx_MM s))] [Inhabited (PLift (cx_MMl n))] (s : cx_Sd n) (k : Fin n) (c : Rat) : cx_MM s := ⟨fun i => if i = k then c else 0, rfl⟩
theorem cx_un_k [Mul (cx_S Nat)] [One (cx_S Nat)] [Add (cx_S Nat)] [Zero (cx_S Nat)] [Inhabited (cx_Idx Nat)] [Inhabited (PLift cx_Natl)] {n : Nat} [Zero (cx_Ex n)] [Add (cx_Ex n)] [Mul (cx_S (cx_Ex n))] [One (cx_S (cx_Ex n))] [Add (cx_S (cx_Ex n))] [Zero (cx_S (cx_Ex n))] [Inhabited (cx_Idx (cx_Ex n))] [Inhabited (PLift (cx_Exl n))] [∀ s : cx_Sd n, Add (cx_MM s)] [∀ s : cx_Sd n, Inhabited (PLift (cx_MGl (cx_MM s)))] [∀ s : cx_Sd n, Inhabited (cx_Tord (cx_Ex n) (cx_MM s))] [Inhabited (PLift (cx_MMl n))] (s : cx_Sd n) (k : Fin n) (c : Rat) : (cx_un s k c).v k = c := if_pos rfl
theorem cx_un_ne [Mul (cx_S Nat)] [One (cx_S Nat)] [Add (cx_S Nat)] [Zero (cx_S Nat)] [Inhabited (cx_Idx Nat)] [Inhabited (PLift cx_Natl)] {n : Nat} [Zero (cx_Ex n)] [Add (cx_Ex n)] [Mul (cx_S (cx_Ex n))] [One (cx_S (cx_Ex n))] [Add (cx_S (cx_Ex n))] [Zero (cx_S (cx_Ex n))] [Inhabited (cx_Idx (cx_Ex n))] [Inhabited (PLift (cx_Exl n))] [∀ s : cx_Sd n, Add (cx_MM s)] [∀ s : cx_Sd n, Inhabited (PLift (cx_MGl (cx_MM s)))] [∀ s : cx_Sd n, Inhabited (cx_Tord (cx_Ex n) (cx_MM s))] [Inhabited (PLift (cx_MMl n))] (s : cx_Sd n) {k i : Fin n} (h : i ≠ k) (c : Rat) : (cx_un s k c).v i = 0 := if_neg h
theorem cx_un_zz [Mul (cx_S Nat)] [One (cx_S Nat)] [Add (cx_S Nat)] [Zero (cx_S Nat)] [Inhabited (cx_Idx Nat)] [Inhabited (PLift cx_Natl)] {n : Nat} [Zero (cx_Ex n)] [Add (cx_Ex n)] [Mul (cx_S (cx_Ex n))] [One (cx_S (cx_Ex n))] [Add (cx_S (cx_Ex n))] [Zero (cx_S (cx_Ex n))] [Inhabited (cx_Idx (cx_Ex n))] [Inhabited (PLift (cx_Exl n))] [∀ s : cx_Sd n, Add (cx_MM s)] [∀ s : cx_Sd n, Inhabited (PLift (cx_MGl (cx_MM s)))] [∀ s : cx_Sd n, Inhabited (cx_Tord (cx_Ex n) (cx_MM s))] [Inhabited (PLift (cx_MMl n))] (s : cx_Sd n) (k : Fin n) {c : Rat} (hc : cx_IsI c) : cx_ZZ s (cx_un s k c) := fun i => by
  by_cases hi : i = k
  · subst hi; rw [cx_un_k]; exact hc
  · rw [cx_un_ne s hi]; exact cx_IsI.zero
theorem cx_step_A [Mul (cx_S Nat)] [One (cx_S Nat)] [Add (cx_S Nat)] [Zero (cx_S Nat)] [Inhabited (cx_Idx Nat)] [Inhabited (PLift cx_Natl)] {n : Nat} {ι : Type} [Zero (cx_Ex n)] [Add (cx_Ex n)] [Mul (cx_S (cx_Ex n))] [One (cx_S (cx_Ex n))] [Add (cx_S (cx_Ex n))] [Zero (cx_S (cx_Ex n))] [Inhabited (cx_Idx (cx_Ex n))] [Inhabited (PLift (cx_Exl n))] [∀ s : cx_Sd n, Add (cx_MM s)] [∀ s : cx_Sd n, Inhabited (PLift (cx_MGl (cx_MM s)))] [∀ s : cx_Sd n, Inhabited (cx_Tord (cx_Ex n) (cx_MM s))] [Inhabited (PLift (cx_MMl n))] {s : cx_Sd n} {k : Fin n} {V' X' : ι → cx_MM (cx_turn s k) → Rat} (hV : cx_MulZ _ V') (hX : cx_MulZ _ X') {t' : cx_Ex n → Rat} (ht' : cx_Fun t') (hk : 0 < t' (cx_ee k)) (h : cx_St (cx_turn s k) V' X' t') :
    cx_St s (fun i m => V' i (cx_mu s (cx_turn s k) k (cx_rp s k) m) * (1 + V' i (cx_mu s (cx_turn s k) k (cx_rp s k) (cx_p (cx_ee k)))) ^ cx_iz (m.v k)) (fun i m => X' i (cx_mu s (cx_turn s k) k (cx_rp s k) m)) (cx_pull (cx_rp s k) k t') := by
  obtain ⟨g', f', hg', hm', gf', hr⟩ := h
  obtain ⟨h, h2, hp, hg⟩ := cx_IsG.exists s k
  have hgt := cx_isG_turn hp hg
  have eg := hg'.unique hgt
  subst eg
  obtain ⟨F, gF, sF, m1, m2⟩ := cx_mn_A hp ht' hk
  have ef := hm'.unique ht' m1
  subst ef
  refine ⟨_, _, hg, m2, gF.comp (cx_E_good (cx_ee_nz k) _), fun m zm => ?_⟩
  have hXm : cx_MulZ s (fun i m => X' i (cx_mu s (cx_turn s k) k (cx_rp s k) m)) := hX.mu (cx_cc_p s k)
  have hVm : cx_MulZ s (fun i m => V' i (cx_mu s (cx_turn s k) k (cx_rp s k) m)) := hV.mu (cx_cc_p s k)
  have T0 := cx_trn (cx_rho_p s k)
  have hF : ∀ m, cx_ZZ s m → cx_RR (fun i b => X' i (cx_mu s (cx_turn s k) k (cx_rp s k) (cx_p b))) (F m) (fun i => V' i (cx_mu s (cx_turn s k) k (cx_rp s k) m) * (X' i (cx_mu s (cx_turn s k) k (cx_rp s k) m))⁻¹) := by
    intro m zm
    have h1 := hr (cx_mu s (cx_turn s k) k (cx_rp s k) m) (cx_zz_mu' (cx_cc_p s k) zm)
    have h2 := cx_RR.back (cx_rho_p s k) sF gF.unit (cx_mu s (cx_turn s k) k (cx_rp s k) m) (y := fun i b => X' i (cx_mu s (cx_turn s k) k (cx_rp s k) (cx_p b))) hXm.mul1 (fun i N a ha => cx_hyy_of (cx_rho_p s k) (cx_cc_p s k) hX i N a ha) h1
    rw [T0.ml m] at h2
    exact h2
  have hpow := cx_pow_RR (c := cx_qq s k) gF (cx_un_zz s k cx_IsI.one) (by rw [cx_qq_pr, cx_un_k]) (fun m zm => by rw [cx_qq_pr]; exact zm k) hXm.mul1 (hVm.quot hXm) hF m zm
  refine hpow.congr rfl (fun i => ?_)
  rw [cx_qq_pr]
  have hx := hXm.pos i _ (cx_ZZ_p s (cx_ee k))
  have e : X' i (cx_mu s (cx_turn s k) k (cx_rp s k) (cx_p (cx_ee k))) * (V' i (cx_mu s (cx_turn s k) k (cx_rp s k) (cx_p (cx_ee k))) * (X' i (cx_mu s (cx_turn s k) k (cx_rp s k) (cx_p (cx_ee k))))⁻¹) = V' i (cx_mu s (cx_turn s k) k (cx_rp s k) (cx_p (cx_ee k))) := by
    have : (X' i (cx_mu s (cx_turn s k) k (cx_rp s k) (cx_p (cx_ee k))))⁻¹ * X' i (cx_mu s (cx_turn s k) k (cx_rp s k) (cx_p (cx_ee k))) = 1 := Rat.inv_mul_cancel _ (by grind)
    grind
  rw [e]; grind
theorem cx_step_B [Mul (cx_S Nat)] [One (cx_S Nat)] [Add (cx_S Nat)] [Zero (cx_S Nat)] [Inhabited (cx_Idx Nat)] [Inhabited (PLift cx_Natl)] {n : Nat} {ι : Type} [Zero (cx_Ex n)] [Add (cx_Ex n)] [Mul (cx_S (cx_Ex n))] [One (cx_S (cx_Ex n))] [Add (cx_S (cx_Ex n))] [Zero (cx_S (cx_Ex n))] [Inhabited (cx_Idx (cx_Ex n))] [Inhabited (PLift (cx_Exl n))] [∀ s : cx_Sd n, Add (cx_MM s)] [∀ s : cx_Sd n, Inhabited (PLift (cx_MGl (cx_MM s)))] [∀ s : cx_Sd n, Inhabited (cx_Tord (cx_Ex n) (cx_MM s))] [Inhabited (PLift (cx_MMl n))] {s : cx_Sd n} {k : Fin n} {V' X' : ι → cx_MM (cx_turn s k) → Rat} (hV : cx_MulZ _ V') (hX : cx_MulZ _ X') {t' : cx_Ex n → Rat} (ht' : cx_Fun t') (hk : t' (cx_ee k) < 0) (h : cx_St (cx_turn s k) V' X' t') :
    cx_St s (fun i m => V' i (cx_mu s (cx_turn s k) k (cx_rm s k) m) * (1 + V' i (cx_p (cx_ee k))) ^ cx_iz (m.v k)) (fun i m => X' i (cx_mu s (cx_turn s k) k (cx_rm s k) m)) (cx_pull (cx_rm s k) k t') := by
  obtain ⟨g', f', hg', hm', gf', hr⟩ := h
  obtain ⟨h, h2, hp, hg⟩ := cx_IsG.exists s k
  have hgt := cx_isG_turn hp hg
  have eg := hg'.unique hgt
  subst eg
  obtain ⟨F, gF, sF, m1, m2⟩ := cx_mn_B hp ht' hk
  have ef := hm'.unique ht' m1
  refine ⟨_, _, hg, m2, gF, fun m zm => ?_⟩
  have hXm : cx_MulZ s (fun i m => X' i (cx_mu s (cx_turn s k) k (cx_rm s k) m)) := hX.mu (cx_cc_m s k)
  have T0 := cx_trn (cx_rho_m s k)
  have eF : cx_trS s k (cx_rm s k) F = cx_comp f' (cx_E (cx_ee k) (- cx_qq (cx_turn s k) k)) := by
    rw [ef, cx_comp_assoc, cx_E_add (cx_ee_nz k), show cx_qq (cx_turn s k) k + - cx_qq (cx_turn s k) k = 0 by grind, cx_E_zero (cx_ee_nz k), cx_comp_I]
  have hq : ∀ m : cx_MM (cx_turn s k), (- cx_qq (cx_turn s k) k) * cx_pr (cx_ee k) m = - m.v k := fun m => by
    have := cx_qq_pr (cx_turn s k) k m
    grind
  have hpow := cx_pow_RR (c := - cx_qq (cx_turn s k) k) gf' (cx_un_zz (cx_turn s k) k (c := -1) ⟨-1, by exact_mod_cast rfl⟩) (by rw [hq, cx_un_k]; grind) (fun m zm => by rw [hq]; exact (zm k).neg) hX.mul1 (hV.quot hX) hr
    (cx_mu s (cx_turn s k) k (cx_rm s k) m) (cx_zz_mu' (cx_cc_m s k) zm)
  rw [← eF] at hpow
  have h2 := cx_RR.back (cx_rho_m s k) sF gF.unit (cx_mu s (cx_turn s k) k (cx_rm s k) m) (y := fun i b => X' i (cx_mu s (cx_turn s k) k (cx_rm s k) (cx_p b))) hXm.mul1 (fun i N a ha => cx_hyy_of (cx_rho_m s k) (cx_cc_m s k) hX i N a ha) hpow
  rw [T0.ml m] at h2
  refine h2.congr rfl (fun i => ?_)
  rw [hq, cx_mu_k, Rat.neg_neg]
  have hx := hX.pos i _ (cx_ZZ_p (cx_turn s k) (cx_ee k))
  have e : X' i (cx_p (cx_ee k)) * (V' i (cx_p (cx_ee k)) * (X' i (cx_p (cx_ee k)))⁻¹) = V' i (cx_p (cx_ee k)) := by
    have : (X' i (cx_p (cx_ee k)))⁻¹ * X' i (cx_p (cx_ee k)) = 1 := Rat.inv_mul_cancel _ (by grind)
    grind
  rw [e]; grind
theorem cx_St.congr [Mul (cx_S Nat)] [One (cx_S Nat)] [Add (cx_S Nat)] [Zero (cx_S Nat)] [Inhabited (cx_Idx Nat)] [Inhabited (PLift cx_Natl)] {n : Nat} {ι : Type} [Zero (cx_Ex n)] [Add (cx_Ex n)] [Mul (cx_S (cx_Ex n))] [One (cx_S (cx_Ex n))] [Add (cx_S (cx_Ex n))] [Zero (cx_S (cx_Ex n))] [Inhabited (cx_Idx (cx_Ex n))] [Inhabited (PLift (cx_Exl n))] [∀ s : cx_Sd n, Add (cx_MM s)] [∀ s : cx_Sd n, Inhabited (PLift (cx_MGl (cx_MM s)))] [∀ s : cx_Sd n, Inhabited (cx_Tord (cx_Ex n) (cx_MM s))] [Inhabited (PLift (cx_MMl n))] {s : cx_Sd n} {V V2 X : ι → cx_MM s → Rat} {t : cx_Ex n → Rat} (h : cx_St s V X t) (hV : ∀ i m, cx_ZZ s m → V i m = V2 i m) : cx_St s V2 X t := by
  obtain ⟨g, f, h1, h2, h3, h4⟩ := h
  exact ⟨g, f, h1, h2, h3, fun m zm => (h4 m zm).congr rfl (fun i => by rw [hV i m zm])⟩
end

section
def cx_mo [Mul (cx_S Nat)] [One (cx_S Nat)] [Add (cx_S Nat)] [Zero (cx_S Nat)] [Inhabited (cx_Idx Nat)] [Inhabited (PLift cx_Natl)] {n : Nat} [Zero (cx_Ex n)] [Add (cx_Ex n)] [Mul (cx_S (cx_Ex n))] [One (cx_S (cx_Ex n))] [Add (cx_S (cx_Ex n))] [Zero (cx_S (cx_Ex n))] [Inhabited (cx_Idx (cx_Ex n))] [Inhabited (PLift (cx_Exl n))] [∀ s : cx_Sd n, Add (cx_MM s)] [∀ s : cx_Sd n, Inhabited (PLift (cx_MGl (cx_MM s)))] [∀ s : cx_Sd n, Inhabited (cx_Tord (cx_Ex n) (cx_MM s))] [Inhabited (PLift (cx_MMl n))] (v : Fin n → Rat) (a : Fin n → Int) : Rat := (List.finRange n).foldr (fun j r => v j ^ a j * r) 1
def cx_mol [Mul (cx_S Nat)] [One (cx_S Nat)] [Add (cx_S Nat)] [Zero (cx_S Nat)] [Inhabited (cx_Idx Nat)] [Inhabited (PLift cx_Natl)] {n : Nat} [Zero (cx_Ex n)] [Add (cx_Ex n)] [Mul (cx_S (cx_Ex n))] [One (cx_S (cx_Ex n))] [Add (cx_S (cx_Ex n))] [Zero (cx_S (cx_Ex n))] [Inhabited (cx_Idx (cx_Ex n))] [Inhabited (PLift (cx_Exl n))] [∀ s : cx_Sd n, Add (cx_MM s)] [∀ s : cx_Sd n, Inhabited (PLift (cx_MGl (cx_MM s)))] [∀ s : cx_Sd n, Inhabited (cx_Tord (cx_Ex n) (cx_MM s))] [Inhabited (PLift (cx_MMl n))] (l : List (Fin n)) (v : Fin n → Rat) (a : Fin n → Int) : Rat := l.foldr (fun j r => v j ^ a j * r) 1
theorem cx_mol_cons [Mul (cx_S Nat)] [One (cx_S Nat)] [Add (cx_S Nat)] [Zero (cx_S Nat)] [Inhabited (cx_Idx Nat)] [Inhabited (PLift cx_Natl)] {n : Nat} [Zero (cx_Ex n)] [Add (cx_Ex n)] [Mul (cx_S (cx_Ex n))] [One (cx_S (cx_Ex n))] [Add (cx_S (cx_Ex n))] [Zero (cx_S (cx_Ex n))] [Inhabited (cx_Idx (cx_Ex n))] [Inhabited (PLift (cx_Exl n))] [∀ s : cx_Sd n, Add (cx_MM s)] [∀ s : cx_Sd n, Inhabited (PLift (cx_MGl (cx_MM s)))] [∀ s : cx_Sd n, Inhabited (cx_Tord (cx_Ex n) (cx_MM s))] [Inhabited (PLift (cx_MMl n))] (x : Fin n) (l : List (Fin n)) (v : Fin n → Rat) (a : Fin n → Int) : cx_mol (x :: l) v a = v x ^ a x * cx_mol l v a := rfl
theorem cx_mol_add [Mul (cx_S Nat)] [One (cx_S Nat)] [Add (cx_S Nat)] [Zero (cx_S Nat)] [Inhabited (cx_Idx Nat)] [Inhabited (PLift cx_Natl)] {n : Nat} [Zero (cx_Ex n)] [Add (cx_Ex n)] [Mul (cx_S (cx_Ex n))] [One (cx_S (cx_Ex n))] [Add (cx_S (cx_Ex n))] [Zero (cx_S (cx_Ex n))] [Inhabited (cx_Idx (cx_Ex n))] [Inhabited (PLift (cx_Exl n))] [∀ s : cx_Sd n, Add (cx_MM s)] [∀ s : cx_Sd n, Inhabited (PLift (cx_MGl (cx_MM s)))] [∀ s : cx_Sd n, Inhabited (cx_Tord (cx_Ex n) (cx_MM s))] [Inhabited (PLift (cx_MMl n))] (l : List (Fin n)) {v : Fin n → Rat} (h : ∀ j, 0 < v j) (a b : Fin n → Int) : cx_mol l v (fun j => a j + b j) = cx_mol l v a * cx_mol l v b := by
  induction l with
  | nil => show (1 : Rat) = 1 * 1; grind
  | cons x l ih => rw [cx_mol_cons, cx_mol_cons, cx_mol_cons, ih, cx_zp_add (h x)]; grind
theorem cx_mol_pos [Mul (cx_S Nat)] [One (cx_S Nat)] [Add (cx_S Nat)] [Zero (cx_S Nat)] [Inhabited (cx_Idx Nat)] [Inhabited (PLift cx_Natl)] {n : Nat} [Zero (cx_Ex n)] [Add (cx_Ex n)] [Mul (cx_S (cx_Ex n))] [One (cx_S (cx_Ex n))] [Add (cx_S (cx_Ex n))] [Zero (cx_S (cx_Ex n))] [Inhabited (cx_Idx (cx_Ex n))] [Inhabited (PLift (cx_Exl n))] [∀ s : cx_Sd n, Add (cx_MM s)] [∀ s : cx_Sd n, Inhabited (PLift (cx_MGl (cx_MM s)))] [∀ s : cx_Sd n, Inhabited (cx_Tord (cx_Ex n) (cx_MM s))] [Inhabited (PLift (cx_MMl n))] (l : List (Fin n)) {v : Fin n → Rat} (h : ∀ j, 0 < v j) (a : Fin n → Int) : 0 < cx_mol l v a := by
  induction l with
  | nil => show (0 : Rat) < 1; grind
  | cons x l ih => rw [cx_mol_cons]; exact Rat.mul_pos (Rat.zpow_pos (h x)) ih
theorem cx_mol_zero [Mul (cx_S Nat)] [One (cx_S Nat)] [Add (cx_S Nat)] [Zero (cx_S Nat)] [Inhabited (cx_Idx Nat)] [Inhabited (PLift cx_Natl)] {n : Nat} [Zero (cx_Ex n)] [Add (cx_Ex n)] [Mul (cx_S (cx_Ex n))] [One (cx_S (cx_Ex n))] [Add (cx_S (cx_Ex n))] [Zero (cx_S (cx_Ex n))] [Inhabited (cx_Idx (cx_Ex n))] [Inhabited (PLift (cx_Exl n))] [∀ s : cx_Sd n, Add (cx_MM s)] [∀ s : cx_Sd n, Inhabited (PLift (cx_MGl (cx_MM s)))] [∀ s : cx_Sd n, Inhabited (cx_Tord (cx_Ex n) (cx_MM s))] [Inhabited (PLift (cx_MMl n))] (l : List (Fin n)) (v : Fin n → Rat) (a : Fin n → Int) (h : ∀ j ∈ l, a j = 0) : cx_mol l v a = 1 := by
  induction l with
  | nil => rfl
  | cons x l ih => rw [cx_mol_cons, ih (fun j hj => h j (by simp [hj])), h x (by simp), Rat.zpow_zero]; grind
theorem cx_mol_congr [Mul (cx_S Nat)] [One (cx_S Nat)] [Add (cx_S Nat)] [Zero (cx_S Nat)] [Inhabited (cx_Idx Nat)] [Inhabited (PLift cx_Natl)] {n : Nat} [Zero (cx_Ex n)] [Add (cx_Ex n)] [Mul (cx_S (cx_Ex n))] [One (cx_S (cx_Ex n))] [Add (cx_S (cx_Ex n))] [Zero (cx_S (cx_Ex n))] [Inhabited (cx_Idx (cx_Ex n))] [Inhabited (PLift (cx_Exl n))] [∀ s : cx_Sd n, Add (cx_MM s)] [∀ s : cx_Sd n, Inhabited (PLift (cx_MGl (cx_MM s)))] [∀ s : cx_Sd n, Inhabited (cx_Tord (cx_Ex n) (cx_MM s))] [Inhabited (PLift (cx_MMl n))] (l : List (Fin n)) {v v' : Fin n → Rat} {a a' : Fin n → Int} (h : ∀ j ∈ l, v j ^ a j = v' j ^ a' j) : cx_mol l v a = cx_mol l v' a' := by
  induction l with
  | nil => rfl
  | cons x l ih => rw [cx_mol_cons, cx_mol_cons, ih (fun j hj => h j (by simp [hj])), h x (by simp)]
theorem cx_one_zp [Mul (cx_S Nat)] [One (cx_S Nat)] [Add (cx_S Nat)] [Zero (cx_S Nat)] [Inhabited (cx_Idx Nat)] [Inhabited (PLift cx_Natl)]  (z : Int) : (1 : Rat) ^ z = 1 := by
  have : ∀ j : Nat, (1 : Rat) ^ (j : Int) = 1 := fun j => by
    induction j with
    | zero => exact Rat.zpow_zero 1
    | succ j ih => rw [show ((j + 1 : Nat) : Int) = (j : Int) + 1 by omega, cx_zp_add (by grind), ih, Rat.zpow_one]; grind
  rcases Int.eq_nat_or_neg z with ⟨j, rfl | rfl⟩
  · exact this j
  · rw [Rat.zpow_neg, this j]; have h : (1 : Rat)⁻¹ * 1 = 1 := Rat.inv_mul_cancel _ (by grind)
    rw [Rat.mul_one] at h; exact h
theorem cx_mul_zp [Mul (cx_S Nat)] [One (cx_S Nat)] [Add (cx_S Nat)] [Zero (cx_S Nat)] [Inhabited (cx_Idx Nat)] [Inhabited (PLift cx_Natl)]  {x y : Rat} (hx : 0 < x) (hy : 0 < y) (z : Int) : (x * y) ^ z = x ^ z * y ^ z := by
  have hxy := Rat.mul_pos hx hy
  have main : ∀ j : Nat, (x * y) ^ (j : Int) = x ^ (j : Int) * y ^ (j : Int) := fun j => by
    induction j with
    | zero => show (x * y) ^ (0 : Int) = x ^ (0 : Int) * y ^ (0 : Int); rw [Rat.zpow_zero, Rat.zpow_zero, Rat.zpow_zero]; grind
    | succ j ih =>
      rw [show ((j + 1 : Nat) : Int) = (j : Int) + 1 by omega, cx_zp_add hxy, cx_zp_add hx, cx_zp_add hy, ih, Rat.zpow_one, Rat.zpow_one, Rat.zpow_one]; grind
  rcases Int.eq_nat_or_neg z with ⟨j, rfl | rfl⟩
  · exact main j
  · rw [Rat.zpow_neg, Rat.zpow_neg, Rat.zpow_neg, main j, Rat.inv_mul_rev]; grind
theorem cx_zp_mul [Mul (cx_S Nat)] [One (cx_S Nat)] [Add (cx_S Nat)] [Zero (cx_S Nat)] [Inhabited (cx_Idx Nat)] [Inhabited (PLift cx_Natl)]  {x : Rat} (hx : 0 < x) (a z : Int) : x ^ (a * z) = (x ^ a) ^ z := by
  have hxa : 0 < x ^ a := Rat.zpow_pos hx
  have main : ∀ j : Nat, x ^ (a * (j : Int)) = (x ^ a) ^ (j : Int) := fun j => by
    induction j with
    | zero => show x ^ (a * (0 : Int)) = (x ^ a) ^ (0 : Int); rw [Int.mul_zero, Rat.zpow_zero, Rat.zpow_zero]
    | succ j ih =>
      rw [show ((j + 1 : Nat) : Int) = (j : Int) + 1 by omega, Int.mul_add, cx_zp_add hx, cx_zp_add hxa, ih, Int.mul_one, Rat.zpow_one]
  rcases Int.eq_nat_or_neg z with ⟨j, rfl | rfl⟩
  · exact main j
  · rw [Int.mul_neg, Rat.zpow_neg, Rat.zpow_neg, main j]
theorem cx_mol_pow [Mul (cx_S Nat)] [One (cx_S Nat)] [Add (cx_S Nat)] [Zero (cx_S Nat)] [Inhabited (cx_Idx Nat)] [Inhabited (PLift cx_Natl)] {n : Nat} [Zero (cx_Ex n)] [Add (cx_Ex n)] [Mul (cx_S (cx_Ex n))] [One (cx_S (cx_Ex n))] [Add (cx_S (cx_Ex n))] [Zero (cx_S (cx_Ex n))] [Inhabited (cx_Idx (cx_Ex n))] [Inhabited (PLift (cx_Exl n))] [∀ s : cx_Sd n, Add (cx_MM s)] [∀ s : cx_Sd n, Inhabited (PLift (cx_MGl (cx_MM s)))] [∀ s : cx_Sd n, Inhabited (cx_Tord (cx_Ex n) (cx_MM s))] [Inhabited (PLift (cx_MMl n))] (l : List (Fin n)) {v : Fin n → Rat} (h : ∀ j, 0 < v j) (a : Fin n → Int) (z : Int) : cx_mol l v (fun j => a j * z) = cx_mol l v a ^ z := by
  induction l with
  | nil => show (1 : Rat) = 1 ^ z; rw [cx_one_zp]
  | cons x l ih => rw [cx_mol_cons, cx_mol_cons, ih, cx_mul_zp (Rat.zpow_pos (h x)) (cx_mol_pos l h a), cx_zp_mul (h x)]
theorem cx_mol_split [Mul (cx_S Nat)] [One (cx_S Nat)] [Add (cx_S Nat)] [Zero (cx_S Nat)] [Inhabited (cx_Idx Nat)] [Inhabited (PLift cx_Natl)] {n : Nat} [Zero (cx_Ex n)] [Add (cx_Ex n)] [Mul (cx_S (cx_Ex n))] [One (cx_S (cx_Ex n))] [Add (cx_S (cx_Ex n))] [Zero (cx_S (cx_Ex n))] [Inhabited (cx_Idx (cx_Ex n))] [Inhabited (PLift (cx_Exl n))] [∀ s : cx_Sd n, Add (cx_MM s)] [∀ s : cx_Sd n, Inhabited (PLift (cx_MGl (cx_MM s)))] [∀ s : cx_Sd n, Inhabited (cx_Tord (cx_Ex n) (cx_MM s))] [Inhabited (PLift (cx_MMl n))] {l : List (Fin n)} (hn : l.Nodup) {k : Fin n} (hk : k ∈ l) (v : Fin n → Rat) (a : Fin n → Int) : cx_mol l v a = v k ^ a k * cx_mol l v (fun j => if j = k then 0 else a j) := by
  induction l with
  | nil => simp at hk
  | cons x l ih =>
    rw [List.nodup_cons] at hn
    rw [cx_mol_cons, cx_mol_cons]
    by_cases hx : x = k
    · subst hx
      rw [if_pos rfl, Rat.zpow_zero, Rat.one_mul]
      congr 1
      exact cx_mol_congr l (fun j hj => by rw [if_neg (fun e : j = x => hn.1 (by rw [← e]; exact hj))])
    · rw [if_neg hx, ih hn.2 (by rcases List.mem_cons.1 hk with h | h; exact absurd h.symm hx; exact h)]; grind
theorem cx_mo_add [Mul (cx_S Nat)] [One (cx_S Nat)] [Add (cx_S Nat)] [Zero (cx_S Nat)] [Inhabited (cx_Idx Nat)] [Inhabited (PLift cx_Natl)] {n : Nat} [Zero (cx_Ex n)] [Add (cx_Ex n)] [Mul (cx_S (cx_Ex n))] [One (cx_S (cx_Ex n))] [Add (cx_S (cx_Ex n))] [Zero (cx_S (cx_Ex n))] [Inhabited (cx_Idx (cx_Ex n))] [Inhabited (PLift (cx_Exl n))] [∀ s : cx_Sd n, Add (cx_MM s)] [∀ s : cx_Sd n, Inhabited (PLift (cx_MGl (cx_MM s)))] [∀ s : cx_Sd n, Inhabited (cx_Tord (cx_Ex n) (cx_MM s))] [Inhabited (PLift (cx_MMl n))] {v : Fin n → Rat} (h : ∀ j, 0 < v j) (a b : Fin n → Int) : cx_mo v (fun j => a j + b j) = cx_mo v a * cx_mo v b := cx_mol_add _ h a b
theorem cx_mo_pos [Mul (cx_S Nat)] [One (cx_S Nat)] [Add (cx_S Nat)] [Zero (cx_S Nat)] [Inhabited (cx_Idx Nat)] [Inhabited (PLift cx_Natl)] {n : Nat} [Zero (cx_Ex n)] [Add (cx_Ex n)] [Mul (cx_S (cx_Ex n))] [One (cx_S (cx_Ex n))] [Add (cx_S (cx_Ex n))] [Zero (cx_S (cx_Ex n))] [Inhabited (cx_Idx (cx_Ex n))] [Inhabited (PLift (cx_Exl n))] [∀ s : cx_Sd n, Add (cx_MM s)] [∀ s : cx_Sd n, Inhabited (PLift (cx_MGl (cx_MM s)))] [∀ s : cx_Sd n, Inhabited (cx_Tord (cx_Ex n) (cx_MM s))] [Inhabited (PLift (cx_MMl n))] {v : Fin n → Rat} (h : ∀ j, 0 < v j) (a : Fin n → Int) : 0 < cx_mo v a := cx_mol_pos _ h a
theorem cx_mo_pow [Mul (cx_S Nat)] [One (cx_S Nat)] [Add (cx_S Nat)] [Zero (cx_S Nat)] [Inhabited (cx_Idx Nat)] [Inhabited (PLift cx_Natl)] {n : Nat} [Zero (cx_Ex n)] [Add (cx_Ex n)] [Mul (cx_S (cx_Ex n))] [One (cx_S (cx_Ex n))] [Add (cx_S (cx_Ex n))] [Zero (cx_S (cx_Ex n))] [Inhabited (cx_Idx (cx_Ex n))] [Inhabited (PLift (cx_Exl n))] [∀ s : cx_Sd n, Add (cx_MM s)] [∀ s : cx_Sd n, Inhabited (PLift (cx_MGl (cx_MM s)))] [∀ s : cx_Sd n, Inhabited (cx_Tord (cx_Ex n) (cx_MM s))] [Inhabited (PLift (cx_MMl n))] {v : Fin n → Rat} (h : ∀ j, 0 < v j) (a : Fin n → Int) (z : Int) : cx_mo v (fun j => a j * z) = cx_mo v a ^ z := cx_mol_pow _ h a z
theorem cx_mo_split [Mul (cx_S Nat)] [One (cx_S Nat)] [Add (cx_S Nat)] [Zero (cx_S Nat)] [Inhabited (cx_Idx Nat)] [Inhabited (PLift cx_Natl)] {n : Nat} [Zero (cx_Ex n)] [Add (cx_Ex n)] [Mul (cx_S (cx_Ex n))] [One (cx_S (cx_Ex n))] [Add (cx_S (cx_Ex n))] [Zero (cx_S (cx_Ex n))] [Inhabited (cx_Idx (cx_Ex n))] [Inhabited (PLift (cx_Exl n))] [∀ s : cx_Sd n, Add (cx_MM s)] [∀ s : cx_Sd n, Inhabited (PLift (cx_MGl (cx_MM s)))] [∀ s : cx_Sd n, Inhabited (cx_Tord (cx_Ex n) (cx_MM s))] [Inhabited (PLift (cx_MMl n))] (k : Fin n) (v : Fin n → Rat) (a : Fin n → Int) : cx_mo v a = v k ^ a k * cx_mo v (fun j => if j = k then 0 else a j) := cx_mol_split (List.nodup_finRange n) (List.mem_finRange k) v a
theorem cx_mo_congr [Mul (cx_S Nat)] [One (cx_S Nat)] [Add (cx_S Nat)] [Zero (cx_S Nat)] [Inhabited (cx_Idx Nat)] [Inhabited (PLift cx_Natl)] {n : Nat} [Zero (cx_Ex n)] [Add (cx_Ex n)] [Mul (cx_S (cx_Ex n))] [One (cx_S (cx_Ex n))] [Add (cx_S (cx_Ex n))] [Zero (cx_S (cx_Ex n))] [Inhabited (cx_Idx (cx_Ex n))] [Inhabited (PLift (cx_Exl n))] [∀ s : cx_Sd n, Add (cx_MM s)] [∀ s : cx_Sd n, Inhabited (PLift (cx_MGl (cx_MM s)))] [∀ s : cx_Sd n, Inhabited (cx_Tord (cx_Ex n) (cx_MM s))] [Inhabited (PLift (cx_MMl n))] {v v' : Fin n → Rat} {a a' : Fin n → Int} (h : ∀ j, v j ^ a j = v' j ^ a' j) : cx_mo v a = cx_mo v' a' := cx_mol_congr _ (fun j _ => h j)
def cx_ix [Mul (cx_S Nat)] [One (cx_S Nat)] [Add (cx_S Nat)] [Zero (cx_S Nat)] [Inhabited (cx_Idx Nat)] [Inhabited (PLift cx_Natl)] {n : Nat} [Zero (cx_Ex n)] [Add (cx_Ex n)] [Mul (cx_S (cx_Ex n))] [One (cx_S (cx_Ex n))] [Add (cx_S (cx_Ex n))] [Zero (cx_S (cx_Ex n))] [Inhabited (cx_Idx (cx_Ex n))] [Inhabited (PLift (cx_Exl n))] [∀ s : cx_Sd n, Add (cx_MM s)] [∀ s : cx_Sd n, Inhabited (PLift (cx_MGl (cx_MM s)))] [∀ s : cx_Sd n, Inhabited (cx_Tord (cx_Ex n) (cx_MM s))] [Inhabited (PLift (cx_MMl n))] {s : cx_Sd n} (m : cx_MM s) : Fin n → Int := fun i => cx_iz (m.v i)
def cx_Vm [Mul (cx_S Nat)] [One (cx_S Nat)] [Add (cx_S Nat)] [Zero (cx_S Nat)] [Inhabited (cx_Idx Nat)] [Inhabited (PLift cx_Natl)] {n : Nat} {ι : Type} [Zero (cx_Ex n)] [Add (cx_Ex n)] [Mul (cx_S (cx_Ex n))] [One (cx_S (cx_Ex n))] [Add (cx_S (cx_Ex n))] [Zero (cx_S (cx_Ex n))] [Inhabited (cx_Idx (cx_Ex n))] [Inhabited (PLift (cx_Exl n))] [∀ s : cx_Sd n, Add (cx_MM s)] [∀ s : cx_Sd n, Inhabited (PLift (cx_MGl (cx_MM s)))] [∀ s : cx_Sd n, Inhabited (cx_Tord (cx_Ex n) (cx_MM s))] [Inhabited (PLift (cx_MMl n))] (s : cx_Sd n) (v : ι → Fin n → Rat) : ι → cx_MM s → Rat := fun i m => cx_mo (v i) (cx_ix m)
theorem cx_Vm_mulZ [Mul (cx_S Nat)] [One (cx_S Nat)] [Add (cx_S Nat)] [Zero (cx_S Nat)] [Inhabited (cx_Idx Nat)] [Inhabited (PLift cx_Natl)] {n : Nat} {ι : Type} [Zero (cx_Ex n)] [Add (cx_Ex n)] [Mul (cx_S (cx_Ex n))] [One (cx_S (cx_Ex n))] [Add (cx_S (cx_Ex n))] [Zero (cx_S (cx_Ex n))] [Inhabited (cx_Idx (cx_Ex n))] [Inhabited (PLift (cx_Exl n))] [∀ s : cx_Sd n, Add (cx_MM s)] [∀ s : cx_Sd n, Inhabited (PLift (cx_MGl (cx_MM s)))] [∀ s : cx_Sd n, Inhabited (cx_Tord (cx_Ex n) (cx_MM s))] [Inhabited (PLift (cx_MMl n))] (s : cx_Sd n) {v : ι → Fin n → Rat} (h : ∀ i j, 0 < v i j) : cx_MulZ s (cx_Vm s v) := ⟨(fun i m _ => cx_mo_pos (h i) _),
  (fun i m m' hm hm' => by
    unfold cx_Vm
    rw [← cx_mo_add (h i)]
    refine cx_mo_congr (fun j => ?_)
    unfold cx_ix
    rw [cx_mm_add, cx_iz_add (hm j) (hm' j)])⟩
def cx_stepv [Mul (cx_S Nat)] [One (cx_S Nat)] [Add (cx_S Nat)] [Zero (cx_S Nat)] [Inhabited (cx_Idx Nat)] [Inhabited (PLift cx_Natl)] {n : Nat} [Zero (cx_Ex n)] [Add (cx_Ex n)] [Mul (cx_S (cx_Ex n))] [One (cx_S (cx_Ex n))] [Add (cx_S (cx_Ex n))] [Zero (cx_S (cx_Ex n))] [Inhabited (cx_Idx (cx_Ex n))] [Inhabited (PLift (cx_Exl n))] [∀ s : cx_Sd n, Add (cx_MM s)] [∀ s : cx_Sd n, Inhabited (PLift (cx_MGl (cx_MM s)))] [∀ s : cx_Sd n, Inhabited (cx_Tord (cx_Ex n) (cx_MM s))] [Inhabited (PLift (cx_MMl n))] (b : Fin n → Fin n → Int) (k : Fin n) (v : Fin n → Rat) : Fin n → Rat := fun j =>
  if j = k then (cx_mo v (fun i => (cx_pos (b i k) : Int)) + cx_mo v (fun i => (cx_pos (- b i k) : Int))) * (v k)⁻¹ else v j
theorem cx_stepv_pos [Mul (cx_S Nat)] [One (cx_S Nat)] [Add (cx_S Nat)] [Zero (cx_S Nat)] [Inhabited (cx_Idx Nat)] [Inhabited (PLift cx_Natl)] {n : Nat} [Zero (cx_Ex n)] [Add (cx_Ex n)] [Mul (cx_S (cx_Ex n))] [One (cx_S (cx_Ex n))] [Add (cx_S (cx_Ex n))] [Zero (cx_S (cx_Ex n))] [Inhabited (cx_Idx (cx_Ex n))] [Inhabited (PLift (cx_Exl n))] [∀ s : cx_Sd n, Add (cx_MM s)] [∀ s : cx_Sd n, Inhabited (PLift (cx_MGl (cx_MM s)))] [∀ s : cx_Sd n, Inhabited (cx_Tord (cx_Ex n) (cx_MM s))] [Inhabited (PLift (cx_MMl n))] (b : Fin n → Fin n → Int) (k : Fin n) {v : Fin n → Rat} (h : ∀ j, 0 < v j) (j : Fin n) : 0 < cx_stepv b k v j := by
  unfold cx_stepv
  by_cases hj : j = k
  · rw [if_pos hj]
    have h1 := cx_mo_pos h (fun i => (cx_pos (b i k) : Int))
    have h2 := cx_mo_pos h (fun i => (cx_pos (- b i k) : Int))
    exact Rat.mul_pos (by grind) (Rat.inv_pos.2 (h k))
  · rw [if_neg hj]; exact h j
theorem cx_stepv_neg [Mul (cx_S Nat)] [One (cx_S Nat)] [Add (cx_S Nat)] [Zero (cx_S Nat)] [Inhabited (cx_Idx Nat)] [Inhabited (PLift cx_Natl)] {n : Nat} [Zero (cx_Ex n)] [Add (cx_Ex n)] [Mul (cx_S (cx_Ex n))] [One (cx_S (cx_Ex n))] [Add (cx_S (cx_Ex n))] [Zero (cx_S (cx_Ex n))] [Inhabited (cx_Idx (cx_Ex n))] [Inhabited (PLift (cx_Exl n))] [∀ s : cx_Sd n, Add (cx_MM s)] [∀ s : cx_Sd n, Inhabited (PLift (cx_MGl (cx_MM s)))] [∀ s : cx_Sd n, Inhabited (cx_Tord (cx_Ex n) (cx_MM s))] [Inhabited (PLift (cx_MMl n))] {b b' : Fin n → Fin n → Int} {k : Fin n} (h : ∀ i, b' i k = - b i k) (v : Fin n → Rat) : cx_stepv b' k v = cx_stepv b k v := by
  funext j
  unfold cx_stepv
  by_cases hj : j = k
  · rw [if_pos hj, if_pos hj]
    have e1 : (fun i => (cx_pos (b' i k) : Int)) = fun i => (cx_pos (- b i k) : Int) := funext fun i => by rw [h i]
    have e2 : (fun i => (cx_pos (- b' i k) : Int)) = fun i => (cx_pos (b i k) : Int) := funext fun i => by rw [h i, Int.neg_neg]
    rw [e1, e2]; grind
  · rw [if_neg hj, if_neg hj]
theorem cx_chart [Mul (cx_S Nat)] [One (cx_S Nat)] [Add (cx_S Nat)] [Zero (cx_S Nat)] [Inhabited (cx_Idx Nat)] [Inhabited (PLift cx_Natl)] {n : Nat} [Zero (cx_Ex n)] [Add (cx_Ex n)] [Mul (cx_S (cx_Ex n))] [One (cx_S (cx_Ex n))] [Add (cx_S (cx_Ex n))] [Zero (cx_S (cx_Ex n))] [Inhabited (cx_Idx (cx_Ex n))] [Inhabited (PLift (cx_Exl n))] [∀ s : cx_Sd n, Add (cx_MM s)] [∀ s : cx_Sd n, Inhabited (PLift (cx_MGl (cx_MM s)))] [∀ s : cx_Sd n, Inhabited (cx_Tord (cx_Ex n) (cx_MM s))] [Inhabited (PLift (cx_MMl n))] {s : cx_Sd n} {k : Fin n} {c : Fin n → Int} (hck : c k = 0) {z : Fin n → Int} (hzk : z k = 0) {v : Fin n → Rat} (hv : ∀ j, 0 < v j)
    (hb : cx_mo v (fun j => c j) * (1 + cx_mo v z) = cx_mo v (fun i => (cx_pos (s.b i k) : Int)) + cx_mo v (fun i => (cx_pos (- s.b i k) : Int))) (a a' : Fin n → Int)
    (ha' : ∀ j, a' j = if j = k then - a k else a j + c j * a k) : cx_mo (cx_stepv s.b k v) a = cx_mo v a' * (1 + cx_mo v z) ^ a k := by
  have e1 : cx_mo (cx_stepv s.b k v) a = (cx_stepv s.b k v k) ^ a k * cx_mo v (fun j => if j = k then 0 else a j) := by
    rw [cx_mo_split k]
    congr 1
    refine cx_mo_congr (fun j => ?_)
    by_cases hj : j = k
    · rw [if_pos hj, Rat.zpow_zero, Rat.zpow_zero]
    · rw [if_neg hj]
      have : cx_stepv s.b k v j = v j := if_neg hj
      rw [this]
  have e2 : cx_stepv s.b k v k = cx_mo v c * (1 + cx_mo v z) * (v k)⁻¹ := by
    unfold cx_stepv
    rw [if_pos rfl, hb]
  have p1 := cx_mo_pos hv c
  have p2 : 0 < 1 + cx_mo v z := by have := cx_mo_pos hv z; grind
  have p3 : 0 < (v k)⁻¹ := Rat.inv_pos.2 (hv k)
  have e3 : cx_mo v a' = v k ^ (- a k) * (cx_mo v (fun j => if j = k then 0 else a j) * cx_mo v c ^ a k) := by
    rw [cx_mo_split k, ha' k, if_pos rfl]
    congr 1
    rw [← cx_mo_pow hv, ← cx_mo_add hv]
    refine cx_mo_congr (fun j => ?_)
    by_cases hj : j = k
    · subst hj; rw [if_pos rfl, if_pos rfl, hck]; congr 1; omega
    · rw [if_neg hj, if_neg hj, ha' j, if_neg hj]
  have e4 : ((v k)⁻¹) ^ a k = v k ^ (- a k) := by
    have h1 : ((v k)⁻¹) ^ a k * v k ^ a k = 1 := by
      rw [← cx_mul_zp p3 (hv k), Rat.inv_mul_cancel _ (by have := hv k; grind), cx_one_zp]
    have h2 : v k ^ (- a k) * v k ^ a k = 1 := by rw [← cx_zp_add (hv k), Int.add_left_neg, Rat.zpow_zero]
    refine cx_canc_pos (Rat.zpow_pos (hv k) : 0 < v k ^ a k) ?_
    rw [h1, h2]
  rw [e1, e2, e3, cx_mul_zp (Rat.mul_pos p1 p2) p3, cx_mul_zp p1 p2, e4]; grind
theorem cx_ix_mu [Mul (cx_S Nat)] [One (cx_S Nat)] [Add (cx_S Nat)] [Zero (cx_S Nat)] [Inhabited (cx_Idx Nat)] [Inhabited (PLift cx_Natl)] {n : Nat} [Zero (cx_Ex n)] [Add (cx_Ex n)] [Mul (cx_S (cx_Ex n))] [One (cx_S (cx_Ex n))] [Add (cx_S (cx_Ex n))] [Zero (cx_S (cx_Ex n))] [Inhabited (cx_Idx (cx_Ex n))] [Inhabited (PLift (cx_Exl n))] [∀ s : cx_Sd n, Add (cx_MM s)] [∀ s : cx_Sd n, Inhabited (PLift (cx_MGl (cx_MM s)))] [∀ s : cx_Sd n, Inhabited (cx_Tord (cx_Ex n) (cx_MM s))] [Inhabited (PLift (cx_MMl n))] {s : cx_Sd n} {k : Fin n} {ρ : Fin n → Nat} {c : Fin n → Int} (hc : ∀ i, cx_cc s k ρ i = (c i : Rat)) {m : cx_MM s} (hm : cx_ZZ s m) (j : Fin n) :
    cx_ix (cx_mu s (cx_turn s k) k ρ m) j = if j = k then - cx_ix m k else cx_ix m j + c j * cx_ix m k := by
  unfold cx_ix
  by_cases hj : j = k
  · subst hj; rw [cx_mu_k, if_pos rfl, cx_iz_neg (hm j)]
  · rw [cx_mu_ne _ _ hj, if_neg hj, hc]
    apply cx_iz_inj
    have h1 := cx_iz_eq (hm j)
    have h2 := cx_iz_eq (hm k)
    have e : ((cx_iz (m.v j) + c j * cx_iz (m.v k) : Int) : Rat) = ((cx_iz (m.v j) : Int) : Rat) + (c j : Rat) * ((cx_iz (m.v k) : Int) : Rat) := by exact_mod_cast rfl
    rw [e, h1, h2]
theorem cx_posI2 [Mul (cx_S Nat)] [One (cx_S Nat)] [Add (cx_S Nat)] [Zero (cx_S Nat)] [Inhabited (cx_Idx Nat)] [Inhabited (PLift cx_Natl)]  (x : Int) : (cx_pos (-x) : Int) + x = (cx_pos x : Int) := by unfold cx_pos; omega
theorem cx_vm_p [Mul (cx_S Nat)] [One (cx_S Nat)] [Add (cx_S Nat)] [Zero (cx_S Nat)] [Inhabited (cx_Idx Nat)] [Inhabited (PLift cx_Natl)] {n : Nat} {ι : Type} [Zero (cx_Ex n)] [Add (cx_Ex n)] [Mul (cx_S (cx_Ex n))] [One (cx_S (cx_Ex n))] [Add (cx_S (cx_Ex n))] [Zero (cx_S (cx_Ex n))] [Inhabited (cx_Idx (cx_Ex n))] [Inhabited (PLift (cx_Exl n))] [∀ s : cx_Sd n, Add (cx_MM s)] [∀ s : cx_Sd n, Inhabited (PLift (cx_MGl (cx_MM s)))] [∀ s : cx_Sd n, Inhabited (cx_Tord (cx_Ex n) (cx_MM s))] [Inhabited (PLift (cx_MMl n))] {s : cx_Sd n} {k : Fin n} {v : ι → Fin n → Rat} (hv : ∀ i j, 0 < v i j) (i : ι) (m : cx_MM s) (hm : cx_ZZ s m) :
    cx_Vm (cx_turn s k) v i (cx_mu s (cx_turn s k) k (cx_rp s k) m) * (1 + cx_Vm (cx_turn s k) v i (cx_mu s (cx_turn s k) k (cx_rp s k) (cx_p (cx_ee k)))) ^ cx_iz (m.v k) = cx_Vm s (fun i => cx_stepv s.b k (v i)) i m := by
  have hc : ∀ j, cx_cc s k (cx_rp s k) j = ((cx_pos (- s.b j k) : Int) : Rat) := fun j => by unfold cx_cc; rw [cx_posR']; exact_mod_cast rfl
  have hz : ∀ j, cx_ix (cx_mu s (cx_turn s k) k (cx_rp s k) (cx_p (cx_ee k))) j = s.b j k := fun j => by
    rw [cx_ix_mu hc (cx_ZZ_p s (cx_ee k))]
    unfold cx_ix
    rw [cx_p_ee, cx_p_ee, s.self k, cx_iz_cast, cx_iz_cast]
    by_cases hj : j = k
    · subst hj; rw [if_pos rfl, s.self j]; omega
    · rw [if_neg hj]; omega
  have hz' : cx_ix (cx_mu s (cx_turn s k) k (cx_rp s k) (cx_p (cx_ee k))) = fun j => s.b j k := funext hz
  show cx_mo (v i) _ * (1 + cx_mo (v i) (cx_ix (cx_mu s (cx_turn s k) k (cx_rp s k) (cx_p (cx_ee k))))) ^ _ = cx_mo (cx_stepv s.b k (v i)) (cx_ix m)
  rw [hz']
  refine (cx_chart (s := s) (c := fun j => (cx_pos (- s.b j k) : Int)) (by rw [s.self k]; rfl) (z := fun j => s.b j k) (s.self k) (hv i) ?_ (cx_ix m) _ (cx_ix_mu hc hm)).symm
  have : cx_mo (v i) (fun j => (cx_pos (- s.b j k) : Int)) * cx_mo (v i) (fun j => s.b j k) = cx_mo (v i) (fun j => (cx_pos (s.b j k) : Int)) := by
    rw [← cx_mo_add (hv i)]
    exact cx_mo_congr (fun j => by rw [cx_posI2])
  grind
theorem cx_vm_m [Mul (cx_S Nat)] [One (cx_S Nat)] [Add (cx_S Nat)] [Zero (cx_S Nat)] [Inhabited (cx_Idx Nat)] [Inhabited (PLift cx_Natl)] {n : Nat} {ι : Type} [Zero (cx_Ex n)] [Add (cx_Ex n)] [Mul (cx_S (cx_Ex n))] [One (cx_S (cx_Ex n))] [Add (cx_S (cx_Ex n))] [Zero (cx_S (cx_Ex n))] [Inhabited (cx_Idx (cx_Ex n))] [Inhabited (PLift (cx_Exl n))] [∀ s : cx_Sd n, Add (cx_MM s)] [∀ s : cx_Sd n, Inhabited (PLift (cx_MGl (cx_MM s)))] [∀ s : cx_Sd n, Inhabited (cx_Tord (cx_Ex n) (cx_MM s))] [Inhabited (PLift (cx_MMl n))] {s : cx_Sd n} {k : Fin n} {v : ι → Fin n → Rat} (hv : ∀ i j, 0 < v i j) (i : ι) (m : cx_MM s) (hm : cx_ZZ s m) :
    cx_Vm (cx_turn s k) v i (cx_mu s (cx_turn s k) k (cx_rm s k) m) * (1 + cx_Vm (cx_turn s k) v i (cx_p (cx_ee k))) ^ cx_iz (m.v k) = cx_Vm s (fun i => cx_stepv s.b k (v i)) i m := by
  have hc : ∀ j, cx_cc s k (cx_rm s k) j = ((cx_pos (s.b j k) : Int) : Rat) := fun j => by unfold cx_cc; rw [cx_posR]; exact_mod_cast rfl
  have hz' : cx_ix (cx_p (cx_ee k) : cx_MM (cx_turn s k)) = fun j => - s.b j k := funext fun j => by
    unfold cx_ix
    rw [cx_p_ee, cx_turn_col, cx_iz_cast]
  show cx_mo (v i) _ * (1 + cx_mo (v i) (cx_ix (cx_p (cx_ee k) : cx_MM (cx_turn s k)))) ^ _ = cx_mo (cx_stepv s.b k (v i)) (cx_ix m)
  rw [hz']
  refine (cx_chart (s := s) (c := fun j => (cx_pos (s.b j k) : Int)) (by rw [s.self k]; rfl) (z := fun j => - s.b j k) (by rw [s.self k]; rfl) (hv i) ?_ (cx_ix m) _ (cx_ix_mu hc hm)).symm
  have : cx_mo (v i) (fun j => (cx_pos (s.b j k) : Int)) * cx_mo (v i) (fun j => - s.b j k) = cx_mo (v i) (fun j => (cx_pos (- s.b j k) : Int)) := by
    rw [← cx_mo_add (hv i)]
    exact cx_mo_congr (fun j => by have := cx_posI2 (- s.b j k); rw [Int.neg_neg] at this; rw [this])
  grind
def cx_Pv [Mul (cx_S Nat)] [One (cx_S Nat)] [Add (cx_S Nat)] [Zero (cx_S Nat)] [Inhabited (cx_Idx Nat)] [Inhabited (PLift cx_Natl)]  (n : Nat) := { x : Fin n → Rat // ∀ j, 0 < x j }
def cx_Ok [Mul (cx_S Nat)] [One (cx_S Nat)] [Add (cx_S Nat)] [Zero (cx_S Nat)] [Inhabited (cx_Idx Nat)] [Inhabited (PLift cx_Natl)] {n : Nat} [Zero (cx_Ex n)] [Add (cx_Ex n)] [Mul (cx_S (cx_Ex n))] [One (cx_S (cx_Ex n))] [Add (cx_S (cx_Ex n))] [Zero (cx_S (cx_Ex n))] [Inhabited (cx_Idx (cx_Ex n))] [Inhabited (PLift (cx_Exl n))] [∀ s : cx_Sd n, Add (cx_MM s)] [∀ s : cx_Sd n, Inhabited (PLift (cx_MGl (cx_MM s)))] [∀ s : cx_Sd n, Inhabited (cx_Tord (cx_Ex n) (cx_MM s))] [Inhabited (PLift (cx_MMl n))] (s : cx_Sd n) (v : cx_Pv n → Fin n → Rat) : Prop := (∀ x j, 0 < v x j) ∧ ∀ W : List ((cx_Ex n → Rat) → Rat), (∀ l ∈ W, cx_Lin1 l ∧ ∃ u, cx_Fun u ∧ l u ≠ 0) →
  ∃ (t : cx_Ex n → Rat) (X : cx_Pv n → cx_MM s → Rat) (Φ : cx_MM s → Fin n → Int), cx_Fun t ∧ (∀ l ∈ W, l t ≠ 0) ∧ cx_MulZ s X ∧ (∀ x m, cx_ZZ s m → X x m = cx_mo x.1 (Φ m)) ∧ cx_St s (cx_Vm s v) X t
theorem cx_ok_start [Mul (cx_S Nat)] [One (cx_S Nat)] [Add (cx_S Nat)] [Zero (cx_S Nat)] [Inhabited (cx_Idx Nat)] [Inhabited (PLift cx_Natl)] {n : Nat} [Zero (cx_Ex n)] [Add (cx_Ex n)] [Mul (cx_S (cx_Ex n))] [One (cx_S (cx_Ex n))] [Add (cx_S (cx_Ex n))] [Zero (cx_S (cx_Ex n))] [Inhabited (cx_Idx (cx_Ex n))] [Inhabited (PLift (cx_Exl n))] [∀ s : cx_Sd n, Add (cx_MM s)] [∀ s : cx_Sd n, Inhabited (PLift (cx_MGl (cx_MM s)))] [∀ s : cx_Sd n, Inhabited (cx_Tord (cx_Ex n) (cx_MM s))] [Inhabited (PLift (cx_MMl n))] (s : cx_Sd n) (k0 : Fin n) : cx_Ok s (fun x => x.1) := by
  refine ⟨fun x j => x.2 j, fun W hW => ?_⟩
  let L : List ((cx_Ex n → Rat) → Rat) := (List.finRange n).map fun i => fun t => t (cx_ee i)
  obtain ⟨t, ht, hall, _⟩ := cx_gen_dir (B := cx_Ex n) cx_Fun (fun u v hu hv e => hu.plus hv e) cx_fun_dg (W ++ L) (by
    intro l hl
    rcases List.mem_append.1 hl with hl | hl
    · exact (hW l hl).1
    · obtain ⟨i, _, rfl⟩ := List.mem_map.1 hl; intro u v e; rfl) (l0 := fun t => t (cx_ee k0)) (List.mem_append.2 (.inr (List.mem_map.2 ⟨k0, List.mem_finRange k0, rfl⟩))) 1 (.inl rfl)
    (by have := cx_dg_pos (cx_ee_nz k0); show 0 ≤ 1 * cx_dg (cx_ee k0); grind) ⟨cx_dg, cx_fun_dg, by have := cx_dg_pos (cx_ee_nz k0); show cx_dg (cx_ee k0) ≠ 0; grind⟩
  have hpos : ∀ i, 0 < t (cx_ee i) := fun i => (hall (fun t => t (cx_ee i)) (List.mem_append.2 (.inr (List.mem_map.2 ⟨i, List.mem_finRange i, rfl⟩)))).1 (cx_dg_pos (cx_ee_nz i))
  have htp : ∀ b : cx_Ex n, b ≠ 0 → 0 < t b := by
    intro b hb
    have hnn : ∀ i ∈ cx_fr n, 0 ≤ t (cx_ee i) * (b i : Rat) := fun i _ => Rat.mul_nonneg (by have := hpos i; grind) (cx_natR_nonneg _)
    rw [cx_fun_dt ht b]
    have h0 : 0 ≤ cx_dt (fun i => t (cx_ee i)) b := cx_sm_nonneg hnn
    by_cases hz : cx_dt (fun i => t (cx_ee i)) b = 0
    · exfalso
      apply hb
      funext i
      have := cx_sm_nonneg_zero hnn hz i (List.mem_finRange i)
      rcases Rat.mul_eq_zero.1 this with h | h
      · have := hpos i; grind
      · rw [cx_ex_zero]; exact_mod_cast h
    · grind
  obtain ⟨h, h2, hp, hg⟩ := cx_IsG.exists s k0
  have hM := cx_Vm_mulZ s (v := fun x : cx_Pv n => x.1) (fun x j => x.2 j)
  refine ⟨t, cx_Vm s (fun x => x.1), fun m => cx_ix m, ht, fun l hl h0 => ?_, hM, fun x m _ => rfl, ⟨_, cx_I, hg, cx_MnT.trivial hg.1.good ht htp, cx_I_good, fun m zm => ?_⟩⟩
  · obtain ⟨_, u, hu, hne⟩ := hW l hl
    exact hne ((hall l (List.mem_append.2 (.inl hl))).2.2 h0 u hu)
  · refine (cx_RR.one hM.mul1).congr rfl (fun x => ?_)
    have := hM.pos x m zm
    exact (Rat.mul_inv_cancel _ (by grind)).symm
theorem cx_ok_step [Mul (cx_S Nat)] [One (cx_S Nat)] [Add (cx_S Nat)] [Zero (cx_S Nat)] [Inhabited (cx_Idx Nat)] [Inhabited (PLift cx_Natl)] {n : Nat} [Zero (cx_Ex n)] [Add (cx_Ex n)] [Mul (cx_S (cx_Ex n))] [One (cx_S (cx_Ex n))] [Add (cx_S (cx_Ex n))] [Zero (cx_S (cx_Ex n))] [Inhabited (cx_Idx (cx_Ex n))] [Inhabited (PLift (cx_Exl n))] [∀ s : cx_Sd n, Add (cx_MM s)] [∀ s : cx_Sd n, Inhabited (PLift (cx_MGl (cx_MM s)))] [∀ s : cx_Sd n, Inhabited (cx_Tord (cx_Ex n) (cx_MM s))] [Inhabited (PLift (cx_MMl n))] {s : cx_Sd n} {k : Fin n} {v : cx_Pv n → Fin n → Rat} (h : cx_Ok (cx_turn s k) v) : cx_Ok s (fun x => cx_stepv s.b k (v x)) := by
  refine ⟨fun x j => cx_stepv_pos s.b k (h.1 x) j, fun W hW => ?_⟩
  have pl : ∀ ρ : Fin n → Nat, ∀ l ∈ W, cx_Lin1 (fun t => l (cx_pull ρ k t)) ∧ ∃ u, cx_Fun u ∧ l (cx_pull ρ k u) ≠ 0 := by
    intro ρ l hl
    obtain ⟨h1, u, hu, hne⟩ := hW l hl
    refine ⟨fun a b e => ?_, cx_pull ρ k u, cx_pull_fun ρ k u, ?_⟩
    · have : cx_pull ρ k (fun x => a x + e * b x) = fun x => cx_pull ρ k a x + e * cx_pull ρ k b x := funext fun x => cx_pull_lin ρ k x a b e
      show l (cx_pull ρ k (fun x => a x + e * b x)) = l (cx_pull ρ k a) + e * l (cx_pull ρ k b)
      rw [this, h1]
    · have : cx_pull ρ k (cx_pull ρ k u) = u := funext fun x => cx_pull_pull ρ k hu x
      rw [this]; exact hne
  let W' : List ((cx_Ex n → Rat) → Rat) := (fun t => t (cx_ee k)) :: ((W.map fun l => fun t => l (cx_pull (cx_rp s k) k t)) ++ (W.map fun l => fun t => l (cx_pull (cx_rm s k) k t)))
  obtain ⟨t', X', Φ', ht', hne, hX, hΦ, hst⟩ := h.2 W' (by
    intro l hl
    rcases List.mem_cons.1 hl with rfl | hl
    · exact ⟨fun _ _ _ => rfl, cx_dg, cx_fun_dg, by have := cx_dg_pos (cx_ee_nz k); grind⟩
    · rcases List.mem_append.1 hl with hl | hl
      · obtain ⟨l', hl', rfl⟩ := List.mem_map.1 hl; exact pl _ l' hl'
      · obtain ⟨l', hl', rfl⟩ := List.mem_map.1 hl; exact pl _ l' hl')
  have hV := cx_Vm_mulZ (cx_turn s k) h.1
  have hk0 : t' (cx_ee k) ≠ 0 := hne (fun t => t (cx_ee k)) (by simp [W'])
  by_cases hk : 0 < t' (cx_ee k)
  · refine ⟨cx_pull (cx_rp s k) k t', fun x m => X' x (cx_mu s (cx_turn s k) k (cx_rp s k) m), fun m => Φ' (cx_mu s (cx_turn s k) k (cx_rp s k) m), cx_pull_fun _ k t', fun l hl => ?_, hX.mu (cx_cc_p s k), fun x m zm => hΦ x _ (cx_zz_mu' (cx_cc_p s k) zm), ?_⟩
    · exact hne (fun t => l (cx_pull (cx_rp s k) k t)) (by
        show _ ∈ _ :: _
        exact List.mem_cons_of_mem _ (List.mem_append.2 (.inl (List.mem_map.2 ⟨l, hl, rfl⟩))))
    · exact (cx_step_A hV hX ht' hk hst).congr (fun x m zm => cx_vm_p h.1 x m zm)
  · refine ⟨cx_pull (cx_rm s k) k t', fun x m => X' x (cx_mu s (cx_turn s k) k (cx_rm s k) m), fun m => Φ' (cx_mu s (cx_turn s k) k (cx_rm s k) m), cx_pull_fun _ k t', fun l hl => ?_, hX.mu (cx_cc_m s k), fun x m zm => hΦ x _ (cx_zz_mu' (cx_cc_m s k) zm), ?_⟩
    · exact hne (fun t => l (cx_pull (cx_rm s k) k t)) (by
        show _ ∈ _ :: _
        exact List.mem_cons_of_mem _ (List.mem_append.2 (.inr (List.mem_map.2 ⟨l, hl, rfl⟩))))
    · exact (cx_step_B hV hX ht' (by grind) hst).congr (fun x m zm => cx_vm_m h.1 x m zm)
theorem cx_ok_turn [Mul (cx_S Nat)] [One (cx_S Nat)] [Add (cx_S Nat)] [Zero (cx_S Nat)] [Inhabited (cx_Idx Nat)] [Inhabited (PLift cx_Natl)] {n : Nat} [Zero (cx_Ex n)] [Add (cx_Ex n)] [Mul (cx_S (cx_Ex n))] [One (cx_S (cx_Ex n))] [Add (cx_S (cx_Ex n))] [Zero (cx_S (cx_Ex n))] [Inhabited (cx_Idx (cx_Ex n))] [Inhabited (PLift (cx_Exl n))] [∀ s : cx_Sd n, Add (cx_MM s)] [∀ s : cx_Sd n, Inhabited (PLift (cx_MGl (cx_MM s)))] [∀ s : cx_Sd n, Inhabited (cx_Tord (cx_Ex n) (cx_MM s))] [Inhabited (PLift (cx_MMl n))] {s : cx_Sd n} {v : cx_Pv n → Fin n → Rat} (h : cx_Ok s v) (k : Fin n) : cx_Ok (cx_turn s k) (fun x => cx_stepv s.b k (v x)) := by
  have h1 : cx_Ok (cx_turn (cx_turn s k) k) v := (cx_turn_turn s k).symm ▸ h
  have h2 := cx_ok_step h1
  have e : (fun x => cx_stepv (cx_turn s k).b k (v x)) = fun x => cx_stepv s.b k (v x) := funext fun x => cx_stepv_neg (fun i => cx_turn_col s k i) (v x)
  rw [e] at h2
  exact h2
theorem cx_ok_laurent [Mul (cx_S Nat)] [One (cx_S Nat)] [Add (cx_S Nat)] [Zero (cx_S Nat)] [Inhabited (cx_Idx Nat)] [Inhabited (PLift cx_Natl)] {n : Nat} [Zero (cx_Ex n)] [Add (cx_Ex n)] [Mul (cx_S (cx_Ex n))] [One (cx_S (cx_Ex n))] [Add (cx_S (cx_Ex n))] [Zero (cx_S (cx_Ex n))] [Inhabited (cx_Idx (cx_Ex n))] [Inhabited (PLift (cx_Exl n))] [∀ s : cx_Sd n, Add (cx_MM s)] [∀ s : cx_Sd n, Inhabited (PLift (cx_MGl (cx_MM s)))] [∀ s : cx_Sd n, Inhabited (cx_Tord (cx_Ex n) (cx_MM s))] [Inhabited (PLift (cx_MMl n))] {s : cx_Sd n} {v : cx_Pv n → Fin n → Rat} (h : cx_Ok s v) (j : Fin n) : ∃ L : List (Nat × (Fin n → Int)), (∀ x ∈ L, 0 < x.1) ∧ ∀ x : cx_Pv n, v x j = cx_sm L (fun y => (y.1 : Rat) * cx_mo x.1 y.2) := by
  classical
  obtain ⟨t, X, Φ, ht, _, hX, hΦ, g, f, hg, hm, gf, hr⟩ := h.2 [] (fun l hl => by simp at hl)
  let m : cx_MM s := cx_un s j 1
  have zm : cx_ZZ s m := cx_un_zz s j cx_IsI.one
  have hdom : ∀ a : cx_Ex n, 0 ≤ cx_pr a m := by
    intro a
    rw [cx_pr_def]
    refine cx_sm_nonneg (fun i _ => ?_)
    have h1 := Rat.mul_nonneg (cx_natR_nonneg (a i)) (cx_natR_nonneg (s.d i))
    by_cases hi : i = j
    · subst hi
      show 0 ≤ (a i : Rat) * (s.d i : Rat) * (cx_un s i 1).v i
      rw [cx_un_k]; grind
    · show 0 ≤ (a i : Rat) * (s.d i : Rat) * (cx_un s j 1).v i
      rw [cx_un_ne s hi]; grind
  have hth := fun b => cx_MnT.theta hg.1 hg.pos zm hdom ht hm b
  obtain ⟨U, hU, hmU, hval⟩ := (hr m zm).finite hX.mul1 (fun b => (hth b).1)
  have hc : ∀ b, ∃ c : Nat, f m b = (c : Rat) := fun b => cx_nat_of (hth b).2 (hth b).1
  obtain ⟨c, hc⟩ := Classical.axiomOfChoice hc
  refine ⟨(U.filter (fun b => decide (0 < c b))).map fun b => (c b, Φ (m + cx_p b)), fun x hx => ?_, fun x => ?_⟩
  · obtain ⟨b, hb, rfl⟩ := List.mem_map.1 hx
    simpa using (List.mem_filter.1 hb).2
  · have e1 : v x j = cx_Vm s v x m := by
      show _ = cx_mo (v x) (cx_ix m)
      rw [cx_mo_split j]
      have e2 : cx_mo (v x) (fun i => if i = j then 0 else cx_ix m i) = 1 := cx_mol_zero _ _ _ (fun i _ => by
        by_cases hi : i = j
        · rw [if_pos hi]
        · rw [if_neg hi]
          show cx_iz ((cx_un s j 1).v i) = 0
          rw [cx_un_ne s hi]; rfl)
      have e3 : cx_ix m j = 1 := by show cx_iz ((cx_un s j 1).v j) = 1; rw [cx_un_k]; rfl
      rw [e2, e3, Rat.zpow_one, Rat.mul_one]
    have hx := hX.pos x m zm
    have h2 := hval x
    have e4 : cx_Vm s v x m = X x m * cx_sm U (fun b => f m b * X x (cx_p b)) := by
      rw [← h2]
      have : (X x m)⁻¹ * X x m = 1 := Rat.inv_mul_cancel _ (by grind)
      grind
    rw [e1, e4, ← cx_sm_mulL, cx_sm_map, ← cx_sm_filter U (fun b => decide (0 < c b)) _ (fun b _ hb => by
      have h0 : c b = 0 := by
        have : ¬ 0 < c b := by simpa using hb
        omega
      rw [h0]; show ((0 : Nat) : Rat) * _ = 0; rw [show ((0 : Nat) : Rat) = 0 from rfl, Rat.zero_mul])]
    refine cx_sm_congr (fun b _ => ?_)
    show X x m * (f m b * X x (cx_p b)) = (c b : Rat) * cx_mo x.1 (Φ (m + cx_p b))
    rw [← hΦ x (m + cx_p b) (cx_ZZ_add s m b zm), hX.add x m (cx_p b) zm (cx_ZZ_p s b), hc b]; grind
end

section
abbrev cx_Xp [Mul (cx_S Nat)] [One (cx_S Nat)] [Add (cx_S Nat)] [Zero (cx_S Nat)] [Inhabited (cx_Idx Nat)] [Inhabited (PLift cx_Natl)]  (n : Nat) := Fin n → Int
abbrev cx_Pl_ [Mul (cx_S Nat)] [One (cx_S Nat)] [Add (cx_S Nat)] [Zero (cx_S Nat)] [Inhabited (cx_Idx Nat)] [Inhabited (PLift cx_Natl)]  (n : Nat) := List (Int × cx_Xp n)
noncomputable def cx_co [Mul (cx_S Nat)] [One (cx_S Nat)] [Add (cx_S Nat)] [Zero (cx_S Nat)] [Inhabited (cx_Idx Nat)] [Inhabited (PLift cx_Natl)] {n : Nat} [Zero (cx_Ex n)] [Add (cx_Ex n)] [Mul (cx_S (cx_Ex n))] [One (cx_S (cx_Ex n))] [Add (cx_S (cx_Ex n))] [Zero (cx_S (cx_Ex n))] [Inhabited (cx_Idx (cx_Ex n))] [Inhabited (PLift (cx_Exl n))] [∀ s : cx_Sd n, Add (cx_MM s)] [∀ s : cx_Sd n, Inhabited (PLift (cx_MGl (cx_MM s)))] [∀ s : cx_Sd n, Inhabited (cx_Tord (cx_Ex n) (cx_MM s))] [Inhabited (PLift (cx_MMl n))] (l : cx_Pl_ n) (a : cx_Xp n) : Int := (l.map fun y => @ite _ (y.2 = a) (Classical.propDecidable _) y.1 0).sum
def cx_vl [Mul (cx_S Nat)] [One (cx_S Nat)] [Add (cx_S Nat)] [Zero (cx_S Nat)] [Inhabited (cx_Idx Nat)] [Inhabited (PLift cx_Natl)] {n : Nat} [Zero (cx_Ex n)] [Add (cx_Ex n)] [Mul (cx_S (cx_Ex n))] [One (cx_S (cx_Ex n))] [Add (cx_S (cx_Ex n))] [Zero (cx_S (cx_Ex n))] [Inhabited (cx_Idx (cx_Ex n))] [Inhabited (PLift (cx_Exl n))] [∀ s : cx_Sd n, Add (cx_MM s)] [∀ s : cx_Sd n, Inhabited (PLift (cx_MGl (cx_MM s)))] [∀ s : cx_Sd n, Inhabited (cx_Tord (cx_Ex n) (cx_MM s))] [Inhabited (PLift (cx_MMl n))] (x : Fin n → Rat) (l : cx_Pl_ n) : Rat := cx_sm l (fun y => (y.1 : Rat) * cx_mo x y.2)
theorem cx_co_nil [Mul (cx_S Nat)] [One (cx_S Nat)] [Add (cx_S Nat)] [Zero (cx_S Nat)] [Inhabited (cx_Idx Nat)] [Inhabited (PLift cx_Natl)] {n : Nat} [Zero (cx_Ex n)] [Add (cx_Ex n)] [Mul (cx_S (cx_Ex n))] [One (cx_S (cx_Ex n))] [Add (cx_S (cx_Ex n))] [Zero (cx_S (cx_Ex n))] [Inhabited (cx_Idx (cx_Ex n))] [Inhabited (PLift (cx_Exl n))] [∀ s : cx_Sd n, Add (cx_MM s)] [∀ s : cx_Sd n, Inhabited (PLift (cx_MGl (cx_MM s)))] [∀ s : cx_Sd n, Inhabited (cx_Tord (cx_Ex n) (cx_MM s))] [Inhabited (PLift (cx_MMl n))] (a : cx_Xp n) : cx_co [] a = 0 := rfl
theorem cx_co_cons [Mul (cx_S Nat)] [One (cx_S Nat)] [Add (cx_S Nat)] [Zero (cx_S Nat)] [Inhabited (cx_Idx Nat)] [Inhabited (PLift cx_Natl)] {n : Nat} [Zero (cx_Ex n)] [Add (cx_Ex n)] [Mul (cx_S (cx_Ex n))] [One (cx_S (cx_Ex n))] [Add (cx_S (cx_Ex n))] [Zero (cx_S (cx_Ex n))] [Inhabited (cx_Idx (cx_Ex n))] [Inhabited (PLift (cx_Exl n))] [∀ s : cx_Sd n, Add (cx_MM s)] [∀ s : cx_Sd n, Inhabited (PLift (cx_MGl (cx_MM s)))] [∀ s : cx_Sd n, Inhabited (cx_Tord (cx_Ex n) (cx_MM s))] [Inhabited (PLift (cx_MMl n))] (y : Int × cx_Xp n) (l : cx_Pl_ n) (a : cx_Xp n) : cx_co (y :: l) a = (@ite _ (y.2 = a) (Classical.propDecidable _) y.1 0) + cx_co l a := rfl
theorem cx_co_app [Mul (cx_S Nat)] [One (cx_S Nat)] [Add (cx_S Nat)] [Zero (cx_S Nat)] [Inhabited (cx_Idx Nat)] [Inhabited (PLift cx_Natl)] {n : Nat} [Zero (cx_Ex n)] [Add (cx_Ex n)] [Mul (cx_S (cx_Ex n))] [One (cx_S (cx_Ex n))] [Add (cx_S (cx_Ex n))] [Zero (cx_S (cx_Ex n))] [Inhabited (cx_Idx (cx_Ex n))] [Inhabited (PLift (cx_Exl n))] [∀ s : cx_Sd n, Add (cx_MM s)] [∀ s : cx_Sd n, Inhabited (PLift (cx_MGl (cx_MM s)))] [∀ s : cx_Sd n, Inhabited (cx_Tord (cx_Ex n) (cx_MM s))] [Inhabited (PLift (cx_MMl n))] (l l' : cx_Pl_ n) (a : cx_Xp n) : cx_co (l ++ l') a = cx_co l a + cx_co l' a := by
  induction l with
  | nil => rw [List.nil_append, cx_co_nil]; omega
  | cons y l ih => rw [List.cons_append, cx_co_cons, cx_co_cons, ih]; omega
theorem cx_vl_nil [Mul (cx_S Nat)] [One (cx_S Nat)] [Add (cx_S Nat)] [Zero (cx_S Nat)] [Inhabited (cx_Idx Nat)] [Inhabited (PLift cx_Natl)] {n : Nat} [Zero (cx_Ex n)] [Add (cx_Ex n)] [Mul (cx_S (cx_Ex n))] [One (cx_S (cx_Ex n))] [Add (cx_S (cx_Ex n))] [Zero (cx_S (cx_Ex n))] [Inhabited (cx_Idx (cx_Ex n))] [Inhabited (PLift (cx_Exl n))] [∀ s : cx_Sd n, Add (cx_MM s)] [∀ s : cx_Sd n, Inhabited (PLift (cx_MGl (cx_MM s)))] [∀ s : cx_Sd n, Inhabited (cx_Tord (cx_Ex n) (cx_MM s))] [Inhabited (PLift (cx_MMl n))] (x : Fin n → Rat) : cx_vl x [] = 0 := rfl
theorem cx_vl_cons [Mul (cx_S Nat)] [One (cx_S Nat)] [Add (cx_S Nat)] [Zero (cx_S Nat)] [Inhabited (cx_Idx Nat)] [Inhabited (PLift cx_Natl)] {n : Nat} [Zero (cx_Ex n)] [Add (cx_Ex n)] [Mul (cx_S (cx_Ex n))] [One (cx_S (cx_Ex n))] [Add (cx_S (cx_Ex n))] [Zero (cx_S (cx_Ex n))] [Inhabited (cx_Idx (cx_Ex n))] [Inhabited (PLift (cx_Exl n))] [∀ s : cx_Sd n, Add (cx_MM s)] [∀ s : cx_Sd n, Inhabited (PLift (cx_MGl (cx_MM s)))] [∀ s : cx_Sd n, Inhabited (cx_Tord (cx_Ex n) (cx_MM s))] [Inhabited (PLift (cx_MMl n))] (x : Fin n → Rat) (y : Int × cx_Xp n) (l : cx_Pl_ n) : cx_vl x (y :: l) = (y.1 : Rat) * cx_mo x y.2 + cx_vl x l := rfl
theorem cx_vl_app [Mul (cx_S Nat)] [One (cx_S Nat)] [Add (cx_S Nat)] [Zero (cx_S Nat)] [Inhabited (cx_Idx Nat)] [Inhabited (PLift cx_Natl)] {n : Nat} [Zero (cx_Ex n)] [Add (cx_Ex n)] [Mul (cx_S (cx_Ex n))] [One (cx_S (cx_Ex n))] [Add (cx_S (cx_Ex n))] [Zero (cx_S (cx_Ex n))] [Inhabited (cx_Idx (cx_Ex n))] [Inhabited (PLift (cx_Exl n))] [∀ s : cx_Sd n, Add (cx_MM s)] [∀ s : cx_Sd n, Inhabited (PLift (cx_MGl (cx_MM s)))] [∀ s : cx_Sd n, Inhabited (cx_Tord (cx_Ex n) (cx_MM s))] [Inhabited (PLift (cx_MMl n))] (x : Fin n → Rat) (l l' : cx_Pl_ n) : cx_vl x (l ++ l') = cx_vl x l + cx_vl x l' := cx_sm_append _ _ _
theorem cx_vl_list [Mul (cx_S Nat)] [One (cx_S Nat)] [Add (cx_S Nat)] [Zero (cx_S Nat)] [Inhabited (cx_Idx Nat)] [Inhabited (PLift cx_Natl)] {n : Nat} [Zero (cx_Ex n)] [Add (cx_Ex n)] [Mul (cx_S (cx_Ex n))] [One (cx_S (cx_Ex n))] [Add (cx_S (cx_Ex n))] [Zero (cx_S (cx_Ex n))] [Inhabited (cx_Idx (cx_Ex n))] [Inhabited (PLift (cx_Exl n))] [∀ s : cx_Sd n, Add (cx_MM s)] [∀ s : cx_Sd n, Inhabited (PLift (cx_MGl (cx_MM s)))] [∀ s : cx_Sd n, Inhabited (cx_Tord (cx_Ex n) (cx_MM s))] [Inhabited (PLift (cx_MMl n))] {U : List (cx_Xp n)} (hn : U.Nodup) (x : Fin n → Rat) (l : cx_Pl_ n) (h : ∀ y ∈ l, y.2 ∈ U) : cx_vl x l = cx_sm U (fun a => (cx_co l a : Rat) * cx_mo x a) := by
  classical
  induction l with
  | nil => exact (cx_sm_zero (fun b _ => by rw [cx_co_nil, show ((0 : Int) : Rat) = 0 from rfl]; grind)).symm
  | cons y l ih =>
    have ih := ih (fun z hz => h z (by simp [hz]))
    rw [cx_vl_cons, ih]
    have e1 : cx_sm U (fun a => (cx_co (y :: l) a : Rat) * cx_mo x a) = cx_sm U (fun a => (if y.2 = a then (y.1 : Rat) else 0) * cx_mo x a) + cx_sm U (fun a => (cx_co l a : Rat) * cx_mo x a) := by
      rw [← cx_sm_add]
      refine cx_sm_congr (fun a _ => ?_)
      rw [cx_co_cons]
      by_cases ha : y.2 = a
      · rw [if_pos ha, if_pos ha]
        have : ((y.1 + cx_co l a : Int) : Rat) = (y.1 : Rat) + (cx_co l a : Rat) := by exact_mod_cast rfl
        rw [this]; grind
      · rw [if_neg ha, if_neg ha]
        have : ((0 + cx_co l a : Int) : Rat) = (cx_co l a : Rat) := by rw [Int.zero_add]
        rw [this]; grind
    have e2 : ∀ U : List (cx_Xp n), U.Nodup → y.2 ∈ U → cx_sm U (fun a => (if y.2 = a then (y.1 : Rat) else 0) * cx_mo x a) = (y.1 : Rat) * cx_mo x y.2 := by
      intro U
      induction U with
      | nil => intro _ h; simp at h
      | cons a U ihU =>
        intro hn hm
        rw [List.nodup_cons] at hn
        rw [cx_sm_cons]
        by_cases ha : y.2 = a
        · have e3 : cx_sm U (fun b => (if y.2 = b then (y.1 : Rat) else 0) * cx_mo x b) = 0 := cx_sm_zero (fun b hb => by
            rw [if_neg (fun e : y.2 = b => hn.1 (by rw [← ha, e]; exact hb))]; grind)
          rw [e3, if_pos ha, ha]; grind
        · rw [ihU hn.2 (by rcases List.mem_cons.1 hm with h | h; exact absurd h ha; exact h), if_neg ha]; grind
    rw [e1, e2 U hn (h y (by simp))]
theorem cx_vl_co [Mul (cx_S Nat)] [One (cx_S Nat)] [Add (cx_S Nat)] [Zero (cx_S Nat)] [Inhabited (cx_Idx Nat)] [Inhabited (PLift cx_Natl)] {n : Nat} [Zero (cx_Ex n)] [Add (cx_Ex n)] [Mul (cx_S (cx_Ex n))] [One (cx_S (cx_Ex n))] [Add (cx_S (cx_Ex n))] [Zero (cx_S (cx_Ex n))] [Inhabited (cx_Idx (cx_Ex n))] [Inhabited (PLift (cx_Exl n))] [∀ s : cx_Sd n, Add (cx_MM s)] [∀ s : cx_Sd n, Inhabited (PLift (cx_MGl (cx_MM s)))] [∀ s : cx_Sd n, Inhabited (cx_Tord (cx_Ex n) (cx_MM s))] [Inhabited (PLift (cx_MMl n))] (x : Fin n → Rat) {l l' : cx_Pl_ n} (h : ∀ a, cx_co l a = cx_co l' a) : cx_vl x l = cx_vl x l' := by
  obtain ⟨U, hn, hm⟩ := cx_nodup_list ((l ++ l').map (·.2))
  rw [cx_vl_list hn x l (fun y hy => (hm _).2 (List.mem_map.2 ⟨y, by simp [hy], rfl⟩)), cx_vl_list hn x l' (fun y hy => (hm _).2 (List.mem_map.2 ⟨y, by simp [hy], rfl⟩))]
  exact cx_sm_congr (fun a _ => by rw [h a])
def cx_shz [Mul (cx_S Nat)] [One (cx_S Nat)] [Add (cx_S Nat)] [Zero (cx_S Nat)] [Inhabited (cx_Idx Nat)] [Inhabited (PLift cx_Natl)] {n : Nat} [Zero (cx_Ex n)] [Add (cx_Ex n)] [Mul (cx_S (cx_Ex n))] [One (cx_S (cx_Ex n))] [Add (cx_S (cx_Ex n))] [Zero (cx_S (cx_Ex n))] [Inhabited (cx_Idx (cx_Ex n))] [Inhabited (PLift (cx_Exl n))] [∀ s : cx_Sd n, Add (cx_MM s)] [∀ s : cx_Sd n, Inhabited (PLift (cx_MGl (cx_MM s)))] [∀ s : cx_Sd n, Inhabited (cx_Tord (cx_Ex n) (cx_MM s))] [Inhabited (PLift (cx_MMl n))] (y : Int × cx_Xp n) (l : cx_Pl_ n) : cx_Pl_ n := l.map fun z => (y.1 * z.1, fun i => y.2 i + z.2 i)
def cx_pmz [Mul (cx_S Nat)] [One (cx_S Nat)] [Add (cx_S Nat)] [Zero (cx_S Nat)] [Inhabited (cx_Idx Nat)] [Inhabited (PLift cx_Natl)] {n : Nat} [Zero (cx_Ex n)] [Add (cx_Ex n)] [Mul (cx_S (cx_Ex n))] [One (cx_S (cx_Ex n))] [Add (cx_S (cx_Ex n))] [Zero (cx_S (cx_Ex n))] [Inhabited (cx_Idx (cx_Ex n))] [Inhabited (PLift (cx_Exl n))] [∀ s : cx_Sd n, Add (cx_MM s)] [∀ s : cx_Sd n, Inhabited (PLift (cx_MGl (cx_MM s)))] [∀ s : cx_Sd n, Inhabited (cx_Tord (cx_Ex n) (cx_MM s))] [Inhabited (PLift (cx_MMl n))] (l l' : cx_Pl_ n) : cx_Pl_ n := l.flatMap fun y => cx_shz y l'
theorem cx_vl_shz [Mul (cx_S Nat)] [One (cx_S Nat)] [Add (cx_S Nat)] [Zero (cx_S Nat)] [Inhabited (cx_Idx Nat)] [Inhabited (PLift cx_Natl)] {n : Nat} [Zero (cx_Ex n)] [Add (cx_Ex n)] [Mul (cx_S (cx_Ex n))] [One (cx_S (cx_Ex n))] [Add (cx_S (cx_Ex n))] [Zero (cx_S (cx_Ex n))] [Inhabited (cx_Idx (cx_Ex n))] [Inhabited (PLift (cx_Exl n))] [∀ s : cx_Sd n, Add (cx_MM s)] [∀ s : cx_Sd n, Inhabited (PLift (cx_MGl (cx_MM s)))] [∀ s : cx_Sd n, Inhabited (cx_Tord (cx_Ex n) (cx_MM s))] [Inhabited (PLift (cx_MMl n))] {x : Fin n → Rat} (hx : ∀ j, 0 < x j) (y : Int × cx_Xp n) (l : cx_Pl_ n) : cx_vl x (cx_shz y l) = (y.1 : Rat) * cx_mo x y.2 * cx_vl x l := by
  unfold cx_vl cx_shz
  rw [cx_sm_map, ← cx_sm_mulL]
  refine cx_sm_congr (fun z _ => ?_)
  rw [cx_mo_add hx]
  have : ((y.1 * z.1 : Int) : Rat) = (y.1 : Rat) * (z.1 : Rat) := by exact_mod_cast rfl
  rw [this]; grind
theorem cx_vl_pmz [Mul (cx_S Nat)] [One (cx_S Nat)] [Add (cx_S Nat)] [Zero (cx_S Nat)] [Inhabited (cx_Idx Nat)] [Inhabited (PLift cx_Natl)] {n : Nat} [Zero (cx_Ex n)] [Add (cx_Ex n)] [Mul (cx_S (cx_Ex n))] [One (cx_S (cx_Ex n))] [Add (cx_S (cx_Ex n))] [Zero (cx_S (cx_Ex n))] [Inhabited (cx_Idx (cx_Ex n))] [Inhabited (PLift (cx_Exl n))] [∀ s : cx_Sd n, Add (cx_MM s)] [∀ s : cx_Sd n, Inhabited (PLift (cx_MGl (cx_MM s)))] [∀ s : cx_Sd n, Inhabited (cx_Tord (cx_Ex n) (cx_MM s))] [Inhabited (PLift (cx_MMl n))] {x : Fin n → Rat} (hx : ∀ j, 0 < x j) (l l' : cx_Pl_ n) : cx_vl x (cx_pmz l l') = cx_vl x l * cx_vl x l' := by
  induction l with
  | nil => show (0 : Rat) = 0 * _; grind
  | cons y l ih =>
    show cx_vl x (List.flatMap _ (y :: l)) = _
    rw [List.flatMap_cons, cx_vl_app, cx_vl_shz hx]
    have : cx_vl x (List.flatMap (fun y => cx_shz y l') l) = cx_vl x l * cx_vl x l' := ih
    rw [this, cx_vl_cons]; grind
theorem cx_co_shz [Mul (cx_S Nat)] [One (cx_S Nat)] [Add (cx_S Nat)] [Zero (cx_S Nat)] [Inhabited (cx_Idx Nat)] [Inhabited (PLift cx_Natl)] {n : Nat} [Zero (cx_Ex n)] [Add (cx_Ex n)] [Mul (cx_S (cx_Ex n))] [One (cx_S (cx_Ex n))] [Add (cx_S (cx_Ex n))] [Zero (cx_S (cx_Ex n))] [Inhabited (cx_Idx (cx_Ex n))] [Inhabited (PLift (cx_Exl n))] [∀ s : cx_Sd n, Add (cx_MM s)] [∀ s : cx_Sd n, Inhabited (PLift (cx_MGl (cx_MM s)))] [∀ s : cx_Sd n, Inhabited (cx_Tord (cx_Ex n) (cx_MM s))] [Inhabited (PLift (cx_MMl n))] (y : Int × cx_Xp n) (l : cx_Pl_ n) (a : cx_Xp n) : cx_co (cx_shz y l) a = y.1 * cx_co l (fun i => a i - y.2 i) := by
  classical
  induction l with
  | nil => show (0 : Int) = y.1 * 0; omega
  | cons z l ih =>
    show cx_co ((y.1 * z.1, fun i => y.2 i + z.2 i) :: cx_shz y l) a = _
    rw [cx_co_cons, cx_co_cons, ih]
    by_cases h : z.2 = fun i => a i - y.2 i
    · rw [if_pos (by funext i; show y.2 i + z.2 i = a i; rw [h]; show y.2 i + (a i - y.2 i) = a i; omega), if_pos h, Int.mul_add]
    · rw [if_neg (fun e => h (by funext i; have := congrFun e i; have h2 : y.2 i + z.2 i = a i := this; omega)), if_neg h]; grind
theorem cx_co_pmz [Mul (cx_S Nat)] [One (cx_S Nat)] [Add (cx_S Nat)] [Zero (cx_S Nat)] [Inhabited (cx_Idx Nat)] [Inhabited (PLift cx_Natl)] {n : Nat} [Zero (cx_Ex n)] [Add (cx_Ex n)] [Mul (cx_S (cx_Ex n))] [One (cx_S (cx_Ex n))] [Add (cx_S (cx_Ex n))] [Zero (cx_S (cx_Ex n))] [Inhabited (cx_Idx (cx_Ex n))] [Inhabited (PLift (cx_Exl n))] [∀ s : cx_Sd n, Add (cx_MM s)] [∀ s : cx_Sd n, Inhabited (PLift (cx_MGl (cx_MM s)))] [∀ s : cx_Sd n, Inhabited (cx_Tord (cx_Ex n) (cx_MM s))] [Inhabited (PLift (cx_MMl n))] (l l' : cx_Pl_ n) (a : cx_Xp n) : cx_co (cx_pmz l l') a = (l.map fun y => y.1 * cx_co l' (fun i => a i - y.2 i)).sum := by
  induction l with
  | nil => rfl
  | cons y l ih =>
    show cx_co (List.flatMap _ (y :: l)) a = _
    rw [List.flatMap_cons, cx_co_app, cx_co_shz, List.map_cons, List.sum_cons]
    congr 1
theorem cx_den_mul [Mul (cx_S Nat)] [One (cx_S Nat)] [Add (cx_S Nat)] [Zero (cx_S Nat)] [Inhabited (cx_Idx Nat)] [Inhabited (PLift cx_Natl)]  (q : Rat) : (q.den : Rat) * q = (q.num : Rat) := by
  have h : (q.num : Rat) / (q.den : Rat) = q := by rw [← Rat.mkRat_eq_div, Rat.mkRat_self]
  have hd : ((q.den : Nat) : Rat) ≠ 0 := by
    intro e
    have : q.den = 0 := by exact_mod_cast e
    exact q.den_nz this
  have h2 : (q.num : Rat) / (q.den : Rat) * (q.den : Rat) = q.num := Rat.div_mul_cancel hd
  rw [h] at h2
  grind
theorem cx_weights [Mul (cx_S Nat)] [One (cx_S Nat)] [Add (cx_S Nat)] [Zero (cx_S Nat)] [Inhabited (cx_Idx Nat)] [Inhabited (PLift cx_Natl)] {n : Nat} [Zero (cx_Ex n)] [Add (cx_Ex n)] [Mul (cx_S (cx_Ex n))] [One (cx_S (cx_Ex n))] [Add (cx_S (cx_Ex n))] [Zero (cx_S (cx_Ex n))] [Inhabited (cx_Idx (cx_Ex n))] [Inhabited (PLift (cx_Exl n))] [∀ s : cx_Sd n, Add (cx_MM s)] [∀ s : cx_Sd n, Inhabited (PLift (cx_MGl (cx_MM s)))] [∀ s : cx_Sd n, Inhabited (cx_Tord (cx_Ex n) (cx_MM s))] [Inhabited (PLift (cx_MMl n))] (L : List (cx_Xp n)) (hL : ∀ a ∈ L, a ≠ fun _ => 0) : ∃ w : cx_Xp n, ∀ a ∈ L, (List.finRange n).foldr (fun i s => w i * a i + s) 0 ≠ 0 := by
  classical

  let cx_ev (a : cx_Xp n) : (cx_Ex n → Rat) → Rat := fun t => cx_sm (cx_fr n) (fun i => t (cx_ee i) * (a i : Rat))
  obtain ⟨t, ht, hne⟩ := cx_gen_lin (B := cx_Ex n) cx_Fun (fun u v hu hv e => hu.plus hv e) ⟨cx_dg, cx_fun_dg⟩ (L.map cx_ev) (by
    intro l hl
    obtain ⟨a, _, rfl⟩ := List.mem_map.1 hl
    intro u v e
    show cx_sm _ _ = cx_sm _ _ + e * cx_sm _ _
    rw [← cx_sm_mulL, ← cx_sm_add]
    exact cx_sm_congr (fun i _ => by grind))
  have hne' : ∀ a ∈ L, cx_sm (cx_fr n) (fun i => t (cx_ee i) * (a i : Rat)) ≠ 0 := by
    intro a ha
    refine hne (cx_ev a) (List.mem_map.2 ⟨a, ha, rfl⟩) ?_
    have : ∃ i, a i ≠ 0 := Classical.byContradiction (fun hno => hL a ha (funext fun i => Classical.byContradiction (fun h => hno ⟨i, h⟩)))
    obtain ⟨i, hi⟩ := this
    refine ⟨fun b => (b i : Rat), cx_coord_fun i, ?_⟩
    show cx_sm (cx_fr n) (fun j => ((cx_ee j i : Nat) : Rat) * (a j : Rat)) ≠ 0
    rw [cx_fr_only i _ (fun j hj => by rw [cx_ee_ne (fun e => hj e.symm), show ((0 : Nat) : Rat) = 0 from rfl]; grind), cx_ee_self, show ((1 : Nat) : Rat) = 1 from rfl]
    intro h
    apply hi
    have h2 : (a i : Rat) = 0 := by grind
    exact_mod_cast h2

  have den : ∀ l : List (Fin n), ∃ d : Nat, 0 < d ∧ ∀ i ∈ l, cx_IsI ((d : Rat) * t (cx_ee i)) := by
    intro l
    induction l with
    | nil => exact ⟨1, by omega, fun i hi => by simp at hi⟩
    | cons j l ih =>
      obtain ⟨d, hd, h⟩ := ih
      refine ⟨d * (t (cx_ee j)).den, Nat.mul_pos hd (t (cx_ee j)).den_pos, fun i hi => ?_⟩
      have e : ((d * (t (cx_ee j)).den : Nat) : Rat) = (d : Rat) * ((t (cx_ee j)).den : Rat) := by exact_mod_cast rfl
      rw [e]
      rcases List.mem_cons.1 hi with rfl | hi
      · refine ⟨(d : Int) * (t (cx_ee i)).num, ?_⟩
        have h1 : ((t (cx_ee i)).den : Rat) * t (cx_ee i) = ((t (cx_ee i)).num : Rat) := cx_den_mul _
        have e2 : (((d : Int) * (t (cx_ee i)).num : Int) : Rat) = (d : Rat) * ((t (cx_ee i)).num : Rat) := by exact_mod_cast rfl
        rw [e2, ← h1]; grind
      · obtain ⟨z, hz⟩ := h i hi
        refine ⟨z * ((t (cx_ee j)).den : Int), ?_⟩
        have e2 : ((z * ((t (cx_ee j)).den : Int) : Int) : Rat) = (z : Rat) * ((t (cx_ee j)).den : Rat) := by exact_mod_cast rfl
        rw [e2, ← hz]; grind
  obtain ⟨d, hd, hI⟩ := den (List.finRange n)
  have hI : ∀ i, ∃ z : Int, (d : Rat) * t (cx_ee i) = (z : Rat) := fun i => hI i (List.mem_finRange i)
  obtain ⟨w, hw⟩ := Classical.axiomOfChoice hI
  refine ⟨w, fun a ha h0 => hne' a ha ?_⟩
  have cast : ∀ l : List (Fin n), ((l.foldr (fun i s => w i * a i + s) 0 : Int) : Rat) = (d : Rat) * cx_sm l (fun i => t (cx_ee i) * (a i : Rat)) := by
    intro l
    induction l with
    | nil => rw [cx_sm_nil]; show ((0 : Int) : Rat) = _; rw [show ((0 : Int) : Rat) = 0 from rfl]; grind
    | cons i l ih =>
      rw [List.foldr_cons, cx_sm_cons]
      have : ((w i * a i + l.foldr (fun i s => w i * a i + s) 0 : Int) : Rat) = (w i : Rat) * (a i : Rat) + ((l.foldr (fun i s => w i * a i + s) 0 : Int) : Rat) := by exact_mod_cast rfl
      rw [this, ih, ← hw i]; grind
  have h1 := cast (List.finRange n)
  rw [h0, show ((0 : Int) : Rat) = 0 from rfl] at h1
  rcases Rat.mul_eq_zero.1 h1.symm with h | h
  · have : d = 0 := by exact_mod_cast h
    omega
  · exact h
def cx_wd [Mul (cx_S Nat)] [One (cx_S Nat)] [Add (cx_S Nat)] [Zero (cx_S Nat)] [Inhabited (cx_Idx Nat)] [Inhabited (PLift cx_Natl)] {n : Nat} [Zero (cx_Ex n)] [Add (cx_Ex n)] [Mul (cx_S (cx_Ex n))] [One (cx_S (cx_Ex n))] [Add (cx_S (cx_Ex n))] [Zero (cx_S (cx_Ex n))] [Inhabited (cx_Idx (cx_Ex n))] [Inhabited (PLift (cx_Exl n))] [∀ s : cx_Sd n, Add (cx_MM s)] [∀ s : cx_Sd n, Inhabited (PLift (cx_MGl (cx_MM s)))] [∀ s : cx_Sd n, Inhabited (cx_Tord (cx_Ex n) (cx_MM s))] [Inhabited (PLift (cx_MMl n))] (w a : cx_Xp n) : Int := (List.finRange n).foldr (fun i s => w i * a i + s) 0
theorem cx_wd_sub [Mul (cx_S Nat)] [One (cx_S Nat)] [Add (cx_S Nat)] [Zero (cx_S Nat)] [Inhabited (cx_Idx Nat)] [Inhabited (PLift cx_Natl)] {n : Nat} [Zero (cx_Ex n)] [Add (cx_Ex n)] [Mul (cx_S (cx_Ex n))] [One (cx_S (cx_Ex n))] [Add (cx_S (cx_Ex n))] [Zero (cx_S (cx_Ex n))] [Inhabited (cx_Idx (cx_Ex n))] [Inhabited (PLift (cx_Exl n))] [∀ s : cx_Sd n, Add (cx_MM s)] [∀ s : cx_Sd n, Inhabited (PLift (cx_MGl (cx_MM s)))] [∀ s : cx_Sd n, Inhabited (cx_Tord (cx_Ex n) (cx_MM s))] [Inhabited (PLift (cx_MMl n))] (w a b : cx_Xp n) : cx_wd w (fun i => a i - b i) = cx_wd w a - cx_wd w b := by
  unfold cx_wd
  generalize List.finRange n = l
  induction l with
  | nil => rfl
  | cons i l ih =>
    rw [List.foldr_cons, List.foldr_cons, List.foldr_cons, ih, Int.mul_sub]; omega
theorem cx_mo_wd [Mul (cx_S Nat)] [One (cx_S Nat)] [Add (cx_S Nat)] [Zero (cx_S Nat)] [Inhabited (cx_Idx Nat)] [Inhabited (PLift cx_Natl)] {n : Nat} [Zero (cx_Ex n)] [Add (cx_Ex n)] [Mul (cx_S (cx_Ex n))] [One (cx_S (cx_Ex n))] [Add (cx_S (cx_Ex n))] [Zero (cx_S (cx_Ex n))] [Inhabited (cx_Idx (cx_Ex n))] [Inhabited (PLift (cx_Exl n))] [∀ s : cx_Sd n, Add (cx_MM s)] [∀ s : cx_Sd n, Inhabited (PLift (cx_MGl (cx_MM s)))] [∀ s : cx_Sd n, Inhabited (cx_Tord (cx_Ex n) (cx_MM s))] [Inhabited (PLift (cx_MMl n))] {T : Rat} (hT : 0 < T) (w a : cx_Xp n) : cx_mo (fun i => T ^ w i) a = T ^ cx_wd w a := by
  unfold cx_mo cx_wd
  generalize List.finRange n = l
  induction l with
  | nil => exact (Rat.zpow_zero T).symm
  | cons i l ih => rw [List.foldr_cons, List.foldr_cons, ih, cx_zp_add hT, ← cx_zp_mul hT]
theorem cx_zp_nat_ge [Mul (cx_S Nat)] [One (cx_S Nat)] [Add (cx_S Nat)] [Zero (cx_S Nat)] [Inhabited (cx_Idx Nat)] [Inhabited (PLift cx_Natl)]  {T : Rat} (hT : 1 ≤ T) (j : Nat) : 1 ≤ T ^ (j : Int) := by
  have h0 : 0 < T := by grind
  induction j with
  | zero => show 1 ≤ T ^ (0 : Int); rw [Rat.zpow_zero]; grind
  | succ j ih =>
    rw [show ((j + 1 : Nat) : Int) = (j : Int) + 1 by omega, cx_zp_add h0, Rat.zpow_one]
    have := Rat.mul_nonneg (by grind : 0 ≤ T ^ (j : Int) - 1) (by grind : 0 ≤ T)
    grind
theorem cx_zp_mono [Mul (cx_S Nat)] [One (cx_S Nat)] [Add (cx_S Nat)] [Zero (cx_S Nat)] [Inhabited (cx_Idx Nat)] [Inhabited (PLift cx_Natl)]  {T : Rat} (hT : 1 ≤ T) {a b : Int} (h : a ≤ b) : T ^ a ≤ T ^ b := by
  have h0 : 0 < T := by grind
  obtain ⟨j, rfl⟩ : ∃ j : Nat, b = a + (j : Int) := ⟨(b - a).toNat, by omega⟩
  rw [cx_zp_add h0]
  have h1 := cx_zp_nat_ge hT j
  have h2 : 0 < T ^ a := Rat.zpow_pos h0
  have := Rat.mul_nonneg (by grind : 0 ≤ T ^ a) (by grind : 0 ≤ T ^ (j : Int) - 1)
  grind
theorem cx_most [Mul (cx_S Nat)] [One (cx_S Nat)] [Add (cx_S Nat)] [Zero (cx_S Nat)] [Inhabited (cx_Idx Nat)] [Inhabited (PLift cx_Natl)]  {α : Type} (l : List α) (f : α → Int) (h : l ≠ []) : ∃ a ∈ l, ∀ b ∈ l, f b ≤ f a := by
  induction l with
  | nil => exact absurd rfl h
  | cons x l ih =>
    by_cases hl : l = []
    · subst hl; exact ⟨x, by simp, fun b hb => by simp at hb; subst hb; omega⟩
    · obtain ⟨a, ha, hm⟩ := ih hl
      by_cases hx : f a ≤ f x
      · exact ⟨x, by simp, fun b hb => by
          rcases List.mem_cons.1 hb with rfl | hb
          · omega
          · have := hm b hb; omega⟩
      · exact ⟨a, by simp [ha], fun b hb => by
          rcases List.mem_cons.1 hb with rfl | hb
          · omega
          · exact hm b hb⟩
theorem cx_vanish [Mul (cx_S Nat)] [One (cx_S Nat)] [Add (cx_S Nat)] [Zero (cx_S Nat)] [Inhabited (cx_Idx Nat)] [Inhabited (PLift cx_Natl)] {n : Nat} [Zero (cx_Ex n)] [Add (cx_Ex n)] [Mul (cx_S (cx_Ex n))] [One (cx_S (cx_Ex n))] [Add (cx_S (cx_Ex n))] [Zero (cx_S (cx_Ex n))] [Inhabited (cx_Idx (cx_Ex n))] [Inhabited (PLift (cx_Exl n))] [∀ s : cx_Sd n, Add (cx_MM s)] [∀ s : cx_Sd n, Inhabited (PLift (cx_MGl (cx_MM s)))] [∀ s : cx_Sd n, Inhabited (cx_Tord (cx_Ex n) (cx_MM s))] [Inhabited (PLift (cx_MMl n))] {U : List (cx_Xp n)} (hU : U.Nodup) (c : cx_Xp n → Int) (h : ∀ x : cx_Pv n, cx_sm U (fun a => (c a : Rat) * cx_mo x.1 a) = 0) : ∀ a ∈ U, c a = 0 := by
  classical

  let V := U.filter (fun a => decide (c a ≠ 0))
  have hV : ∀ x : cx_Pv n, cx_sm V (fun a => (c a : Rat) * cx_mo x.1 a) = 0 := fun x => by
    refine Eq.trans ?_ (h x)
    refine (cx_sm_filter U _ _ (fun a _ ha => ?_)).symm
    have : c a = 0 := by simpa using ha
    rw [this, show ((0 : Int) : Rat) = 0 from rfl]; grind
  have hmem : ∀ a, a ∈ V ↔ a ∈ U ∧ c a ≠ 0 := fun a => by
    show a ∈ U.filter _ ↔ _
    rw [List.mem_filter, decide_eq_true_eq]
  by_cases hne : V = []
  · intro a ha
    refine Classical.byContradiction (fun h0 => ?_)
    have := (hmem a).2 ⟨ha, h0⟩
    rw [hne] at this
    simp at this
  exfalso
  obtain ⟨w, hw⟩ := cx_weights ((V.flatMap fun a => (V.filter fun b => decide (b ≠ a)).map fun b => fun i => a i - b i)) (by
    intro z hz
    obtain ⟨a, ha, hz⟩ := List.mem_flatMap.1 hz
    obtain ⟨b, hb, rfl⟩ := List.mem_map.1 hz
    have hb := List.mem_filter.1 hb
    have hne : b ≠ a := by simpa using hb.2
    intro e
    apply hne
    funext i
    have h1 : a i - b i = 0 := congrFun e i
    omega)
  have hw' : ∀ a ∈ V, ∀ b ∈ V, b ≠ a → cx_wd w a ≠ cx_wd w b := by
    intro a ha b hb hne e
    refine hw (fun i => a i - b i) (List.mem_flatMap.2 ⟨a, ha, List.mem_map.2 ⟨b, List.mem_filter.2 ⟨hb, by simpa using hne⟩, rfl⟩⟩) ?_
    have := cx_wd_sub w a b
    unfold cx_wd at this e
    rw [this]; omega
  obtain ⟨a, ha, hmax⟩ := cx_most V (cx_wd w) hne

  let R := V.filter (fun b => decide (b ≠ a))
  let C : Rat := cx_sm R (fun b => ((c b).natAbs : Rat))
  have hC0 : 0 ≤ C := cx_sm_nonneg (fun b _ => cx_natR_nonneg _)
  let T : Rat := C + 1
  have hT1 : 1 ≤ T := by show 1 ≤ C + 1; grind
  have hT0 : 0 < T := by grind
  let x : cx_Pv n := ⟨fun i => T ^ w i, fun i => Rat.zpow_pos hT0⟩
  have h1 := hV x
  have hVn : V.Nodup := hU.sublist List.filter_sublist
  have hsplit : ∀ V : List (cx_Xp n), V.Nodup → a ∈ V → cx_sm V (fun b => (c b : Rat) * cx_mo x.1 b) = (c a : Rat) * cx_mo x.1 a + cx_sm (V.filter (fun b => decide (b ≠ a))) (fun b => (c b : Rat) * cx_mo x.1 b) := by
    intro V
    induction V with
    | nil => intro _ h; simp at h
    | cons z V ih =>
      intro hn hm
      rw [List.nodup_cons] at hn
      by_cases hz : z = a
      · subst hz
        rw [List.filter_cons_of_neg (by simp), cx_sm_cons]
        congr 1
        rw [List.filter_eq_self.2 (fun b hb => by
          have : b ≠ z := fun e => hn.1 (by rw [← e]; exact hb)
          simpa using this)]
      · rw [List.filter_cons_of_pos (by simpa using hz), cx_sm_cons, cx_sm_cons, ih hn.2 (by rcases List.mem_cons.1 hm with h | h; exact absurd h.symm hz; exact h)]; grind
  rw [hsplit V hVn ha] at h1
  have hmo : ∀ b, cx_mo x.1 b = T ^ cx_wd w b := fun b => cx_mo_wd hT0 w b

  have hR : ∀ R : List (cx_Xp n), (∀ b ∈ R, cx_wd w b ≤ cx_wd w a - 1) → - (cx_sm R (fun b => ((c b).natAbs : Rat)) * T ^ (cx_wd w a - 1)) ≤ cx_sm R (fun b => (c b : Rat) * cx_mo x.1 b) ∧ cx_sm R (fun b => (c b : Rat) * cx_mo x.1 b) ≤ cx_sm R (fun b => ((c b).natAbs : Rat)) * T ^ (cx_wd w a - 1) := by
    intro R
    induction R with
    | nil => intro _; rw [cx_sm_nil, cx_sm_nil]; constructor <;> grind
    | cons b R ih =>
      intro hb
      have ih := ih (fun z hz => hb z (by simp [hz]))
      rw [cx_sm_cons, cx_sm_cons, hmo b]
      have h2 := cx_zp_mono hT1 (hb b (by simp))
      have h3 : 0 < T ^ cx_wd w b := Rat.zpow_pos hT0
      have h4 := cx_natR_nonneg (c b).natAbs
      have h5 : (c b : Rat) ≤ ((c b).natAbs : Rat) := by
        have : c b ≤ ((c b).natAbs : Int) := Int.le_natAbs
        exact_mod_cast this
      have h6 : -((c b).natAbs : Rat) ≤ (c b : Rat) := by
        have : -((c b).natAbs : Int) ≤ c b := by omega
        have e : (-((c b).natAbs : Int) : Rat) = ((-((c b).natAbs : Int) : Int) : Rat) := by exact_mod_cast rfl
        have h7 : ((-((c b).natAbs : Int) : Int) : Rat) ≤ ((c b : Int) : Rat) := by exact_mod_cast this
        have e2 : ((-((c b).natAbs : Int) : Int) : Rat) = -((c b).natAbs : Rat) := by exact_mod_cast rfl
        rw [e2] at h7
        exact h7
      have m1 := Rat.mul_nonneg (by grind : 0 ≤ ((c b).natAbs : Rat) - (c b : Rat)) (by grind : 0 ≤ T ^ cx_wd w b)
      have m2 := Rat.mul_nonneg (by grind : 0 ≤ ((c b).natAbs : Rat) + (c b : Rat)) (by grind : 0 ≤ T ^ cx_wd w b)
      have m3 := Rat.mul_nonneg h4 (by grind : 0 ≤ T ^ (cx_wd w a - 1) - T ^ cx_wd w b)
      constructor <;> grind
  have hRb : ∀ b ∈ R, cx_wd w b ≤ cx_wd w a - 1 := by
    intro b hb
    have hb := List.mem_filter.1 hb
    have hne : b ≠ a := by simpa using hb.2
    have h2 := hmax b hb.1
    have h3 := hw' a ha b hb.1 hne
    omega
  have hb := hR R hRb
  rw [hmo a] at h1
  have e5 : T ^ cx_wd w a = T ^ (cx_wd w a - 1) * T := by
    have : cx_wd w a = (cx_wd w a - 1) + 1 := by omega
    rw [this, cx_zp_add hT0, Rat.zpow_one]
    congr 2
    omega
  have hp : 0 < T ^ (cx_wd w a - 1) := Rat.zpow_pos hT0
  have hca : c a ≠ 0 := ((hmem a).1 ha).2
  have hh : cx_sm R (fun b => (c b : Rat) * cx_mo x.1 b) = - ((c a : Rat) * (T ^ (cx_wd w a - 1) * T)) := by
    rw [e5] at h1
    have h1 : (c a : Rat) * (T ^ (cx_wd w a - 1) * T) + cx_sm R (fun b => (c b : Rat) * cx_mo x.1 b) = 0 := h1
    grind
  rw [hh] at hb
  have hb1 : -(C * T ^ (cx_wd w a - 1)) ≤ -((c a : Rat) * (T ^ (cx_wd w a - 1) * T)) := hb.1
  have hb2 : -((c a : Rat) * (T ^ (cx_wd w a - 1) * T)) ≤ C * T ^ (cx_wd w a - 1) := hb.2
  have hTC : T = C + 1 := rfl
  by_cases hs : 0 < c a
  · have h7 : (1 : Rat) ≤ (c a : Rat) := by exact_mod_cast hs
    have m1 := Rat.mul_nonneg (by grind : 0 ≤ (c a : Rat) - 1) (by have := Rat.mul_pos hp hT0; grind : 0 ≤ T ^ (cx_wd w a - 1) * T)
    rw [hTC] at m1 hb1 hp
    grind
  · have h7 : (c a : Rat) ≤ -1 := by
      have h8 : c a ≤ -1 := by omega
      have h9 : ((c a : Int) : Rat) ≤ ((-1 : Int) : Rat) := by exact_mod_cast h8
      have e9 : ((-1 : Int) : Rat) = -1 := by exact_mod_cast rfl
      rw [e9] at h9
      exact h9
    have m1 := Rat.mul_nonneg (by grind : 0 ≤ -1 - (c a : Rat)) (by have := Rat.mul_pos hp hT0; grind : 0 ≤ T ^ (cx_wd w a - 1) * T)
    rw [hTC] at m1 hb2 hp
    grind
theorem cx_vl_unique [Mul (cx_S Nat)] [One (cx_S Nat)] [Add (cx_S Nat)] [Zero (cx_S Nat)] [Inhabited (cx_Idx Nat)] [Inhabited (PLift cx_Natl)] {n : Nat} [Zero (cx_Ex n)] [Add (cx_Ex n)] [Mul (cx_S (cx_Ex n))] [One (cx_S (cx_Ex n))] [Add (cx_S (cx_Ex n))] [Zero (cx_S (cx_Ex n))] [Inhabited (cx_Idx (cx_Ex n))] [Inhabited (PLift (cx_Exl n))] [∀ s : cx_Sd n, Add (cx_MM s)] [∀ s : cx_Sd n, Inhabited (PLift (cx_MGl (cx_MM s)))] [∀ s : cx_Sd n, Inhabited (cx_Tord (cx_Ex n) (cx_MM s))] [Inhabited (PLift (cx_MMl n))] {l l' : cx_Pl_ n} (h : ∀ x : cx_Pv n, cx_vl x.1 l = cx_vl x.1 l') : ∀ a, cx_co l a = cx_co l' a := by
  classical
  obtain ⟨U, hn, hm⟩ := cx_nodup_list ((l ++ l').map (·.2))
  have hl : ∀ y ∈ l, y.2 ∈ U := fun y hy => (hm _).2 (List.mem_map.2 ⟨y, by simp [hy], rfl⟩)
  have hl' : ∀ y ∈ l', y.2 ∈ U := fun y hy => (hm _).2 (List.mem_map.2 ⟨y, by simp [hy], rfl⟩)
  have hv := cx_vanish hn (fun a => cx_co l a - cx_co l' a) (fun x => by
    have h1 := h x
    rw [cx_vl_list hn x.1 l hl, cx_vl_list hn x.1 l' hl'] at h1
    have e : cx_sm U (fun a => ((cx_co l a - cx_co l' a : Int) : Rat) * cx_mo x.1 a) = cx_sm U (fun a => (cx_co l a : Rat) * cx_mo x.1 a) + (-1) * cx_sm U (fun a => (cx_co l' a : Rat) * cx_mo x.1 a) := by
      rw [← cx_sm_mulL, ← cx_sm_add]
      refine cx_sm_congr (fun a _ => ?_)
      have : ((cx_co l a - cx_co l' a : Int) : Rat) = (cx_co l a : Rat) - (cx_co l' a : Rat) := by exact_mod_cast rfl
      rw [this]; grind
    rw [e, h1]; grind)
  intro a
  by_cases ha : a ∈ U
  · have := hv a ha; omega
  · have z : ∀ l : cx_Pl_ n, (∀ y ∈ l, y.2 ∈ U) → cx_co l a = 0 := by
      intro l hl
      induction l with
      | nil => rfl
      | cons y l ih => rw [cx_co_cons, if_neg (fun e : y.2 = a => ha (by rw [← e]; exact hl y (by simp))), ih (fun z hz => hl z (by simp [hz]))]; omega
    rw [z l hl, z l' hl']
end
