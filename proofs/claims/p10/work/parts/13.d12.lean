def cx_pk [Mul (cx_S Nat)] [One (cx_S Nat)] [Add (cx_S Nat)] [Zero (cx_S Nat)] [Inhabited (cx_Idx Nat)] [Inhabited (PLift cx_Natl)] {n : Nat} [Zero (cx_Ex n)] [Add (cx_Ex n)] [Mul (cx_S (cx_Ex n))] [One (cx_S (cx_Ex n))] [Add (cx_S (cx_Ex n))] [Zero (cx_S (cx_Ex n))] [Inhabited (cx_Idx (cx_Ex n))] [Inhabited (PLift (cx_Exl n))] [∀ s : cx_Sd n, Add (cx_MM s)] [∀ s : cx_Sd n, Inhabited (PLift (cx_MGl (cx_MM s)))] [∀ s : cx_Sd n, Inhabited (cx_Tord (cx_Ex n) (cx_MM s))] [Inhabited (PLift (cx_MMl n))] (s : cx_Sd n) (k : Fin n) (b : cx_Ex n) : Rat := (cx_p b : cx_MM s).v k
theorem cx_pk_dn [Mul (cx_S Nat)] [One (cx_S Nat)] [Add (cx_S Nat)] [Zero (cx_S Nat)] [Inhabited (cx_Idx Nat)] [Inhabited (PLift cx_Natl)] {n : Nat} [Zero (cx_Ex n)] [Add (cx_Ex n)] [Mul (cx_S (cx_Ex n))] [One (cx_S (cx_Ex n))] [Add (cx_S (cx_Ex n))] [Zero (cx_S (cx_Ex n))] [Inhabited (cx_Idx (cx_Ex n))] [Inhabited (PLift (cx_Exl n))] [∀ s : cx_Sd n, Add (cx_MM s)] [∀ s : cx_Sd n, Inhabited (PLift (cx_MGl (cx_MM s)))] [∀ s : cx_Sd n, Inhabited (cx_Tord (cx_Ex n) (cx_MM s))] [Inhabited (PLift (cx_MMl n))] (s : cx_Sd n) (k : Fin n) (b : cx_Ex n) (j : Nat) : cx_pk s k (cx_dn b k j) = cx_pk s k b := by
  unfold cx_pk
  rw [cx_p_def, cx_p_def]
  refine cx_sm_congr (fun i _ => ?_)
  by_cases hi : i = k
  · subst hi; rw [s.self i, show ((0 : Int) : Rat) = 0 from rfl]; grind
  · rw [cx_dn_ne _ _ hi]
theorem cx_pk_turn [Mul (cx_S Nat)] [One (cx_S Nat)] [Add (cx_S Nat)] [Zero (cx_S Nat)] [Inhabited (cx_Idx Nat)] [Inhabited (PLift cx_Natl)] {n : Nat} [Zero (cx_Ex n)] [Add (cx_Ex n)] [Mul (cx_S (cx_Ex n))] [One (cx_S (cx_Ex n))] [Add (cx_S (cx_Ex n))] [Zero (cx_S (cx_Ex n))] [Inhabited (cx_Idx (cx_Ex n))] [Inhabited (PLift (cx_Exl n))] [∀ s : cx_Sd n, Add (cx_MM s)] [∀ s : cx_Sd n, Inhabited (PLift (cx_MGl (cx_MM s)))] [∀ s : cx_Sd n, Inhabited (cx_Tord (cx_Ex n) (cx_MM s))] [Inhabited (PLift (cx_MMl n))] (s : cx_Sd n) (k : Fin n) (b : cx_Ex n) : cx_pk (cx_turn s k) k b = - cx_pk s k b := by
  unfold cx_pk
  rw [cx_p_def, cx_p_def]
  have e3 : ∀ x : Rat, - x = (-1) * x := fun x => by grind
  rw [e3, ← cx_sm_mulL]
  refine cx_sm_congr (fun i _ => ?_)
  rw [cx_turn_row]
  have : ((- s.b k i : Int) : Rat) = - (s.b k i : Rat) := by exact_mod_cast rfl
  rw [this]; grind
def cx_row [Mul (cx_S Nat)] [One (cx_S Nat)] [Add (cx_S Nat)] [Zero (cx_S Nat)] [Inhabited (cx_Idx Nat)] [Inhabited (PLift cx_Natl)] {n : Nat} [Zero (cx_Ex n)] [Add (cx_Ex n)] [Mul (cx_S (cx_Ex n))] [One (cx_S (cx_Ex n))] [Add (cx_S (cx_Ex n))] [Zero (cx_S (cx_Ex n))] [Inhabited (cx_Idx (cx_Ex n))] [Inhabited (PLift (cx_Exl n))] [∀ s : cx_Sd n, Add (cx_MM s)] [∀ s : cx_Sd n, Inhabited (PLift (cx_MGl (cx_MM s)))] [∀ s : cx_Sd n, Inhabited (cx_Tord (cx_Ex n) (cx_MM s))] [Inhabited (PLift (cx_MMl n))] (x : cx_S (cx_Ex n)) (b : cx_Ex n) (k : Fin n) : cx_S Nat := fun j => x (cx_dn b k j)
theorem cx_lin_row [Mul (cx_S Nat)] [One (cx_S Nat)] [Add (cx_S Nat)] [Zero (cx_S Nat)] [Inhabited (cx_Idx Nat)] [Inhabited (PLift cx_Natl)] {n : Nat} [Zero (cx_Ex n)] [Add (cx_Ex n)] [Mul (cx_S (cx_Ex n))] [One (cx_S (cx_Ex n))] [Add (cx_S (cx_Ex n))] [Zero (cx_S (cx_Ex n))] [Inhabited (cx_Idx (cx_Ex n))] [Inhabited (PLift (cx_Exl n))] [∀ s : cx_Sd n, Add (cx_MM s)] [∀ s : cx_Sd n, Inhabited (PLift (cx_MGl (cx_MM s)))] [∀ s : cx_Sd n, Inhabited (cx_Tord (cx_Ex n) (cx_MM s))] [Inhabited (PLift (cx_MMl n))] (s : cx_Sd n) (k : Fin n) (x : cx_S (cx_Ex n)) (m : cx_MM s) (hm : m.v k = 0) (b : cx_Ex n) :
    cx_lin (cx_E (cx_ee k) (cx_qq s k)) m x b = (cx_row x b k * cx_bs (cx_pk s k b)) (b k) := by
  show cx_D b (fun u t => x u * cx_E (cx_ee k) (cx_qq s k) (m + cx_p u) t) = _
  rw [cx_D_ray k b _ (fun u t h => by rw [show (cx_E (cx_ee k) (cx_qq s k) (m + cx_p u) : cx_S (cx_Ex n)) t = 0 from cx_sub_off _ h, Rat.mul_zero]), cx_nat_mul]
  refine cx_sm_congr (fun i _ => ?_)
  congr 1
  show cx_sub (cx_ee k) (cx_bin (cx_qq s k * cx_pr (cx_ee k) (m + cx_p (cx_dn b k (b k - i))))) (cx_nsm i (cx_ee k)) = cx_bin (cx_pk s k b) i
  rw [cx_sub_at (cx_ee_nz k), cx_qq_pr, cx_mm_add, hm, Rat.zero_add]
  have := cx_pk_dn s k b (b k - i)
  unfold cx_pk at this
  rw [this]; rfl
theorem cx_cj_of_pair [Mul (cx_S Nat)] [One (cx_S Nat)] [Add (cx_S Nat)] [Zero (cx_S Nat)] [Inhabited (cx_Idx Nat)] [Inhabited (PLift cx_Natl)] {n : Nat} [Zero (cx_Ex n)] [Add (cx_Ex n)] [Mul (cx_S (cx_Ex n))] [One (cx_S (cx_Ex n))] [Add (cx_S (cx_Ex n))] [Zero (cx_S (cx_Ex n))] [Inhabited (cx_Idx (cx_Ex n))] [Inhabited (PLift (cx_Exl n))] [∀ s : cx_Sd n, Add (cx_MM s)] [∀ s : cx_Sd n, Inhabited (PLift (cx_MGl (cx_MM s)))] [∀ s : cx_Sd n, Inhabited (cx_Tord (cx_Ex n) (cx_MM s))] [Inhabited (PLift (cx_MMl n))] {s : cx_Sd n} {k : Fin n} {h h2 : cx_MM s → cx_S (cx_Ex n)} (hc : cx_comp (cx_E (cx_ee k) (cx_qq s k)) h = cx_comp h2 (cx_E (cx_ee k) (cx_qq s k))) : h2 = cx_cj (cx_ee k) (cx_qq s k) h := by
  unfold cx_cj
  rw [← cx_comp_assoc, hc, cx_comp_assoc, cx_E_add (cx_ee_nz k), show cx_qq s k + - cx_qq s k = 0 by grind, cx_E_zero (cx_ee_nz k), cx_comp_I]
theorem cx_mu_zero [Mul (cx_S Nat)] [One (cx_S Nat)] [Add (cx_S Nat)] [Zero (cx_S Nat)] [Inhabited (cx_Idx Nat)] [Inhabited (PLift cx_Natl)] {n : Nat} [Zero (cx_Ex n)] [Add (cx_Ex n)] [Mul (cx_S (cx_Ex n))] [One (cx_S (cx_Ex n))] [Add (cx_S (cx_Ex n))] [Zero (cx_S (cx_Ex n))] [Inhabited (cx_Idx (cx_Ex n))] [Inhabited (PLift (cx_Exl n))] [∀ s : cx_Sd n, Add (cx_MM s)] [∀ s : cx_Sd n, Inhabited (PLift (cx_MGl (cx_MM s)))] [∀ s : cx_Sd n, Inhabited (cx_Tord (cx_Ex n) (cx_MM s))] [Inhabited (PLift (cx_MMl n))] (s s2 : cx_Sd n) (k : Fin n) (ρ ρ2 : Fin n → Nat) (m : cx_MM s) (hm : m.v k = 0) : cx_mu s s2 k ρ m = cx_mu s s2 k ρ2 m := cx_MM.ext fun i => by
  by_cases hi : i = k
  · subst hi; rw [cx_mu_k, cx_mu_k]
  · rw [cx_mu_ne _ _ hi, cx_mu_ne _ _ hi, hm]; grind
noncomputable def cx_trS [Mul (cx_S Nat)] [One (cx_S Nat)] [Add (cx_S Nat)] [Zero (cx_S Nat)] [Inhabited (cx_Idx Nat)] [Inhabited (PLift cx_Natl)] {n : Nat} [Zero (cx_Ex n)] [Add (cx_Ex n)] [Mul (cx_S (cx_Ex n))] [One (cx_S (cx_Ex n))] [Add (cx_S (cx_Ex n))] [Zero (cx_S (cx_Ex n))] [Inhabited (cx_Idx (cx_Ex n))] [Inhabited (PLift (cx_Exl n))] [∀ s : cx_Sd n, Add (cx_MM s)] [∀ s : cx_Sd n, Inhabited (PLift (cx_MGl (cx_MM s)))] [∀ s : cx_Sd n, Inhabited (cx_Tord (cx_Ex n) (cx_MM s))] [Inhabited (PLift (cx_MMl n))] (s : cx_Sd n) (k : Fin n) (ρ : Fin n → Nat) (f : cx_MM s → cx_S (cx_Ex n)) : cx_MM (cx_turn s k) → cx_S (cx_Ex n) :=
  cx_tr (cx_Sv (cx_dl k) (cx_vv ρ k)) (cx_th ρ k) (cx_mu (cx_turn s k) s k ρ) f
theorem cx_trS_zero [Mul (cx_S Nat)] [One (cx_S Nat)] [Add (cx_S Nat)] [Zero (cx_S Nat)] [Inhabited (cx_Idx Nat)] [Inhabited (PLift cx_Natl)] {n : Nat} [Zero (cx_Ex n)] [Add (cx_Ex n)] [Mul (cx_S (cx_Ex n))] [One (cx_S (cx_Ex n))] [Add (cx_S (cx_Ex n))] [Zero (cx_S (cx_Ex n))] [Inhabited (cx_Idx (cx_Ex n))] [Inhabited (PLift (cx_Exl n))] [∀ s : cx_Sd n, Add (cx_MM s)] [∀ s : cx_Sd n, Inhabited (PLift (cx_MGl (cx_MM s)))] [∀ s : cx_Sd n, Inhabited (cx_Tord (cx_Ex n) (cx_MM s))] [Inhabited (PLift (cx_MMl n))] (s : cx_Sd n) (k : Fin n) (ρ : Fin n → Nat) (f : cx_MM s → cx_S (cx_Ex n)) (m : cx_MM (cx_turn s k)) : cx_trS s k ρ f m 0 = 1 := cx_tr_zero f m
theorem cx_trS_in [Mul (cx_S Nat)] [One (cx_S Nat)] [Add (cx_S Nat)] [Zero (cx_S Nat)] [Inhabited (cx_Idx Nat)] [Inhabited (PLift cx_Natl)] {n : Nat} [Zero (cx_Ex n)] [Add (cx_Ex n)] [Mul (cx_S (cx_Ex n))] [One (cx_S (cx_Ex n))] [Add (cx_S (cx_Ex n))] [Zero (cx_S (cx_Ex n))] [Inhabited (cx_Idx (cx_Ex n))] [Inhabited (PLift (cx_Exl n))] [∀ s : cx_Sd n, Add (cx_MM s)] [∀ s : cx_Sd n, Inhabited (PLift (cx_MGl (cx_MM s)))] [∀ s : cx_Sd n, Inhabited (cx_Tord (cx_Ex n) (cx_MM s))] [Inhabited (PLift (cx_MMl n))] {s : cx_Sd n} {k : Fin n} {ρ : Fin n → Nat} (h : cx_Rho s k ρ) (f : cx_MM s → cx_S (cx_Ex n)) (m : cx_MM (cx_turn s k)) {b : cx_Ex n} (hb : cx_Sv (cx_dl k) (cx_vv ρ k) b) :
    cx_trS s k ρ f m b = f (cx_mu (cx_turn s k) s k ρ m) (cx_th ρ k b) := cx_tr_in (cx_trn h) f m hb
theorem cx_trS_out [Mul (cx_S Nat)] [One (cx_S Nat)] [Add (cx_S Nat)] [Zero (cx_S Nat)] [Inhabited (cx_Idx Nat)] [Inhabited (PLift cx_Natl)] {n : Nat} [Zero (cx_Ex n)] [Add (cx_Ex n)] [Mul (cx_S (cx_Ex n))] [One (cx_S (cx_Ex n))] [Add (cx_S (cx_Ex n))] [Zero (cx_S (cx_Ex n))] [Inhabited (cx_Idx (cx_Ex n))] [Inhabited (PLift (cx_Exl n))] [∀ s : cx_Sd n, Add (cx_MM s)] [∀ s : cx_Sd n, Inhabited (PLift (cx_MGl (cx_MM s)))] [∀ s : cx_Sd n, Inhabited (cx_Tord (cx_Ex n) (cx_MM s))] [Inhabited (PLift (cx_MMl n))] {s : cx_Sd n} {k : Fin n} {ρ : Fin n → Nat} (f : cx_MM s → cx_S (cx_Ex n)) (m : cx_MM (cx_turn s k)) {b : cx_Ex n} (h0 : b ≠ 0) (hb : ¬ cx_Sv (cx_dl k) (cx_vv ρ k) b) : cx_trS s k ρ f m b = 0 := cx_tr_out f m h0 hb
theorem cx_tops [Mul (cx_S Nat)] [One (cx_S Nat)] [Add (cx_S Nat)] [Zero (cx_S Nat)] [Inhabited (cx_Idx Nat)] [Inhabited (PLift cx_Natl)] {n : Nat} [Zero (cx_Ex n)] [Add (cx_Ex n)] [Mul (cx_S (cx_Ex n))] [One (cx_S (cx_Ex n))] [Add (cx_S (cx_Ex n))] [Zero (cx_S (cx_Ex n))] [Inhabited (cx_Idx (cx_Ex n))] [Inhabited (PLift (cx_Exl n))] [∀ s : cx_Sd n, Add (cx_MM s)] [∀ s : cx_Sd n, Inhabited (PLift (cx_MGl (cx_MM s)))] [∀ s : cx_Sd n, Inhabited (cx_Tord (cx_Ex n) (cx_MM s))] [Inhabited (PLift (cx_MMl n))] (s : cx_Sd n) (k : Fin n) (b : cx_Ex n) : (cx_rw_ (cx_rp s k) b : Rat) = (cx_rw_ (cx_rm s k) b : Rat) + cx_pk s k b := by
  have := (cx_kd s k).v2e b
  rw [cx_qq_pr] at this
  unfold cx_vv at this
  unfold cx_pk
  grind
theorem cx_turn_cj [Mul (cx_S Nat)] [One (cx_S Nat)] [Add (cx_S Nat)] [Zero (cx_S Nat)] [Inhabited (cx_Idx Nat)] [Inhabited (PLift cx_Natl)] {n : Nat} [Zero (cx_Ex n)] [Add (cx_Ex n)] [Mul (cx_S (cx_Ex n))] [One (cx_S (cx_Ex n))] [Add (cx_S (cx_Ex n))] [Zero (cx_S (cx_Ex n))] [Inhabited (cx_Idx (cx_Ex n))] [Inhabited (PLift (cx_Exl n))] [∀ s : cx_Sd n, Add (cx_MM s)] [∀ s : cx_Sd n, Inhabited (PLift (cx_MGl (cx_MM s)))] [∀ s : cx_Sd n, Inhabited (cx_Tord (cx_Ex n) (cx_MM s))] [Inhabited (PLift (cx_MMl n))] {s : cx_Sd n} {k : Fin n} {h h2 : cx_MM s → cx_S (cx_Ex n)} (hp : cx_Pair (cx_ee k) (cx_qq s k) (cx_vv (cx_rm s k) k) (cx_vv (cx_rp s k) k) (cx_dl k) (cx_ZZ s) h h2) :
    cx_trS s k (cx_rm s k) h = cx_cj (cx_ee k) (cx_qq (cx_turn s k) k) (cx_trS s k (cx_rp s k) h2) := by
  classical
  have tm := cx_trn (cx_rho_m s k)
  have tp := cx_trn (cx_rho_p s k)
  have g1 : cx_Good (cx_trS s k (cx_rm s k) h) := cx_tr_good tm (cx_th_bnd _ k _) hp.gh hp.sh
  have g2 : cx_Good (cx_trS s k (cx_rp s k) h2) := cx_tr_good tp (cx_th_bnd _ k _) hp.gh2 hp.sh2
  have g3 := cx_cj_good (cx_ee_nz k) (cx_qq (cx_turn s k) k) g2
  have kd' := cx_kd (cx_turn s k) k
  refine cx_Good.test (T := fun b => 0 < cx_dl k b) g1 g3 ?_ ?_ (fun m => cx_pr (cx_ee k) m = 0) ?_ ?_
  · exact fun m b hb hn => cx_tr_sup h m b hb (fun hs => hn hs.1)
  · intro m b hb hn
    have hd : cx_dl k b = 0 := by have := kd'.dl0 b; grind
    obtain ⟨j, rfl⟩ := kd'.ray b hd
    have r0 : cx_Rqd (cx_ee k) (cx_deg (cx_nsm j (cx_ee k))) (cx_trS s k (cx_rp s k) h2) cx_I := by
      intro m i _
      by_cases h0 : cx_nsm i (cx_ee k) = 0
      · rw [h0, cx_trS_zero]; exact cx_one_zero.symm
      · rw [cx_trS_out h2 m h0 (fun hs => by have := hs.1; rw [kd'.fd.nsm, kd'.dlk, Rat.mul_zero] at this; grind)]
        exact (cx_one_ne h0).symm
    have h1 : cx_Rqd (cx_ee k) (cx_deg (cx_nsm j (cx_ee k))) (cx_cj (cx_ee k) (cx_qq (cx_turn s k) k) (cx_trS s k (cx_rp s k) h2)) (cx_comp (cx_E (cx_ee k) (cx_qq (cx_turn s k) k)) (cx_comp cx_I (cx_E (cx_ee k) (-cx_qq (cx_turn s k) k)))) :=
      cx_Rqd.comp kd' (fun _ _ _ => rfl) (cx_Rqd.comp kd' r0 (fun _ _ _ => rfl))
    rw [h1 m j (Nat.le_refl _), cx_I_comp, cx_E_add (cx_ee_nz k), show cx_qq (cx_turn s k) k + - cx_qq (cx_turn s k) k = 0 by grind, cx_E_zero (cx_ee_nz k)]
    exact cx_one_ne hb
  · intro a _ hd
    exact kd'.tst a (by grind)
  · intro m hm
    have hmk : m.v k = 0 := by
      have := cx_qq_pr (cx_turn s k) k m
      rw [hm, Rat.mul_zero] at this
      exact this.symm
    rw [cx_cj_test (cx_ee_nz k) _ _ hm]
    have hh2 := cx_cj_of_pair hp.cj
    let m0 : cx_MM s := cx_mu (cx_turn s k) s k (cx_rm s k) m
    have hm0 : m0.v k = 0 := by show (cx_mu (cx_turn s k) s k (cx_rm s k) m).v k = 0; rw [cx_mu_k, hmk]; grind
    have hm0p : cx_pr (cx_ee k) m0 = 0 := by rw [cx_pr_ee, hm0, Rat.mul_zero]
    have em : cx_mu (cx_turn s k) s k (cx_rp s k) m = m0 := cx_mu_zero _ _ k _ _ m hmk
    refine cx_S.ext (fun b => ?_)
    rw [cx_lin_row (cx_turn s k) k _ m hmk b]
    by_cases hd : 0 < cx_dl k b
    · let X : cx_S Nat := fun j => h m0 (cx_dn b k j)
      let Y : cx_S Nat := fun j => h2 m0 (cx_dn b k j)
      have nz : ∀ j, cx_dn b k j ≠ 0 := fun j e => by
        have := cx_dl_dn k b j
        rw [e, (cx_dl_fun k).zero] at this
        grind
      have hX : ∀ j, cx_rw_ (cx_rm s k) b < j → X j = 0 := fun j hj => hp.sh m0 _ (nz j) (fun hs => by
        have := ((cx_sv_iff _ k _).1 hs).2
        rw [cx_dn_k, cx_rw_dn (cx_rho_m s k).k0] at this
        omega)
      have hY : ∀ j, cx_rw_ (cx_rp s k) b < j → Y j = 0 := fun j hj => hp.sh2 m0 _ (nz j) (fun hs => by
        have := ((cx_sv_iff _ k _).1 hs).2
        rw [cx_dn_k, cx_rw_dn (cx_rho_p s k).k0] at this
        omega)
      have hXY : Y = X * cx_bs (cx_pk s k b) := by
        refine cx_S.ext (fun j => ?_)
        show h2 m0 (cx_dn b k j) = _
        have e1 : h2 m0 = cx_lin (cx_E (cx_ee k) (cx_qq s k)) m0 (h m0) := by
          have := congrFun hh2 m0
          rw [cx_cj_test (cx_ee_nz k) _ _ hm0p] at this
          exact this
        rw [e1, cx_lin_row s k _ m0 hm0, cx_pk_dn, cx_dn_k]
        have e2 : cx_row (h m0) (cx_dn b k j) k = X := funext fun i => by show h m0 (cx_dn (cx_dn b k j) k i) = _; rw [cx_dn_dn]
        rw [e2]
      have hri : cx_IsI (cx_pk s k b) := cx_ZZ_p s b k
      have main := cx_rev_main hri (cx_tops s k b) hX hY hXY
      have eH : cx_row (cx_trS s k (cx_rp s k) h2 m) b k = cx_rv (cx_rw_ (cx_rp s k) b) Y := by
        refine cx_S.ext (fun j => ?_)
        show cx_trS s k (cx_rp s k) h2 m (cx_dn b k j) = cx_rv (cx_rw_ (cx_rp s k) b) Y j
        unfold cx_rv
        by_cases hj : j ≤ cx_rw_ (cx_rp s k) b
        · rw [if_pos hj]
          have hs : cx_Sv (cx_dl k) (cx_vv (cx_rp s k) k) (cx_dn b k j) := (cx_sv_iff _ k _).2 ⟨by rw [cx_dl_dn]; exact hd, by rw [cx_dn_k, cx_rw_dn (cx_rho_p s k).k0]; exact hj⟩
          rw [cx_trS_in (cx_rho_p s k) h2 m hs, em]
          unfold cx_th
          rw [cx_rw_dn (cx_rho_p s k).k0, cx_dn_dn, cx_dn_k]
        · rw [if_neg hj]
          exact cx_trS_out h2 m (nz j) (fun hs => hj (by
            have := ((cx_sv_iff _ k _).1 hs).2
            rw [cx_dn_k, cx_rw_dn (cx_rho_p s k).k0] at this
            exact this))
      rw [eH, cx_pk_turn, main]
      unfold cx_rv
      by_cases hj : b k ≤ cx_rw_ (cx_rm s k) b
      · rw [if_pos hj, cx_trS_in (cx_rho_m s k) h m ((cx_sv_iff _ k _).2 ⟨hd, hj⟩)]
        rfl
      · rw [if_neg hj]
        exact cx_trS_out h m (fun e => by rw [e, (cx_dl_fun k).zero] at hd; grind) (fun hs => hj ((cx_sv_iff _ k _).1 hs).2)
    · have hd0 : cx_dl k b = 0 := by have := kd'.dl0 b; grind
      have hr : ∀ j, cx_dl k (cx_dn b k j) = 0 := fun j => by rw [cx_dl_dn]; exact hd0
      have out : ∀ (ρ : Fin n → Nat) (f : cx_MM s → cx_S (cx_Ex n)) (x : cx_Ex n), cx_dl k x = 0 → cx_trS s k ρ f m x = (1 : cx_S (cx_Ex n)) x := by
        intro ρ f x hx
        by_cases h0 : x = 0
        · rw [h0, cx_trS_zero, cx_one_zero]
        · rw [cx_one_ne h0]
          exact cx_trS_out f m h0 (fun hs => by have := hs.1; grind)
      rw [out _ _ b hd0]
      have e0 : cx_pk (cx_turn s k) k b = 0 := by
        obtain ⟨j, rfl⟩ := kd'.ray b hd0
        have e1 : cx_qq (cx_turn s k) k * cx_pr (cx_ee k) (cx_p (cx_nsm j (cx_ee k)) : cx_MM (cx_turn s k)) = cx_pk (cx_turn s k) k (cx_nsm j (cx_ee k)) := cx_qq_pr _ k _
        rw [← e1, cx_p_nsm, cx_pr_self]; grind
      rw [e0, cx_bs_zero, cx_mul1]
      show _ = cx_trS s k (cx_rp s k) h2 m (cx_dn b k (b k))
      rw [cx_dn_self, out _ _ b hd0]
theorem cx_zz_mu [Mul (cx_S Nat)] [One (cx_S Nat)] [Add (cx_S Nat)] [Zero (cx_S Nat)] [Inhabited (cx_Idx Nat)] [Inhabited (PLift cx_Natl)] {n : Nat} [Zero (cx_Ex n)] [Add (cx_Ex n)] [Mul (cx_S (cx_Ex n))] [One (cx_S (cx_Ex n))] [Add (cx_S (cx_Ex n))] [Zero (cx_S (cx_Ex n))] [Inhabited (cx_Idx (cx_Ex n))] [Inhabited (PLift (cx_Exl n))] [∀ s : cx_Sd n, Add (cx_MM s)] [∀ s : cx_Sd n, Inhabited (PLift (cx_MGl (cx_MM s)))] [∀ s : cx_Sd n, Inhabited (cx_Tord (cx_Ex n) (cx_MM s))] [Inhabited (PLift (cx_MMl n))] {s : cx_Sd n} {k : Fin n} {ρ : Fin n → Nat} (hc : ∀ i, cx_IsI (cx_cc s k ρ i)) (m : cx_MM (cx_turn s k)) (hm : cx_ZZ (cx_turn s k) m) : cx_ZZ s (cx_mu (cx_turn s k) s k ρ m) := fun i => by
  by_cases hi : i = k
  · subst hi
    rw [cx_mu_k]
    obtain ⟨z, hz⟩ := hm i
    exact ⟨-z, by rw [hz]; exact_mod_cast rfl⟩
  · rw [cx_mu_ne _ _ hi]
    exact (hm i).add ((hc i).mul (hm k))
theorem cx_cc_m [Mul (cx_S Nat)] [One (cx_S Nat)] [Add (cx_S Nat)] [Zero (cx_S Nat)] [Inhabited (cx_Idx Nat)] [Inhabited (PLift cx_Natl)] {n : Nat} [Zero (cx_Ex n)] [Add (cx_Ex n)] [Mul (cx_S (cx_Ex n))] [One (cx_S (cx_Ex n))] [Add (cx_S (cx_Ex n))] [Zero (cx_S (cx_Ex n))] [Inhabited (cx_Idx (cx_Ex n))] [Inhabited (PLift (cx_Exl n))] [∀ s : cx_Sd n, Add (cx_MM s)] [∀ s : cx_Sd n, Inhabited (PLift (cx_MGl (cx_MM s)))] [∀ s : cx_Sd n, Inhabited (cx_Tord (cx_Ex n) (cx_MM s))] [Inhabited (PLift (cx_MMl n))] (s : cx_Sd n) (k i : Fin n) : cx_IsI (cx_cc s k (cx_rm s k) i) := by
  unfold cx_cc; rw [cx_posR]; exact ⟨(cx_pos (s.b i k) : Int), by exact_mod_cast rfl⟩
theorem cx_cc_p [Mul (cx_S Nat)] [One (cx_S Nat)] [Add (cx_S Nat)] [Zero (cx_S Nat)] [Inhabited (cx_Idx Nat)] [Inhabited (PLift cx_Natl)] {n : Nat} [Zero (cx_Ex n)] [Add (cx_Ex n)] [Mul (cx_S (cx_Ex n))] [One (cx_S (cx_Ex n))] [Add (cx_S (cx_Ex n))] [Zero (cx_S (cx_Ex n))] [Inhabited (cx_Idx (cx_Ex n))] [Inhabited (PLift (cx_Exl n))] [∀ s : cx_Sd n, Add (cx_MM s)] [∀ s : cx_Sd n, Inhabited (PLift (cx_MGl (cx_MM s)))] [∀ s : cx_Sd n, Inhabited (cx_Tord (cx_Ex n) (cx_MM s))] [Inhabited (PLift (cx_MMl n))] (s : cx_Sd n) (k i : Fin n) : cx_IsI (cx_cc s k (cx_rp s k) i) := by
  unfold cx_cc; rw [cx_posR']; exact ⟨(cx_pos (- s.b i k) : Int), by exact_mod_cast rfl⟩
theorem cx_pair_turn [Mul (cx_S Nat)] [One (cx_S Nat)] [Add (cx_S Nat)] [Zero (cx_S Nat)] [Inhabited (cx_Idx Nat)] [Inhabited (PLift cx_Natl)] {n : Nat} [Zero (cx_Ex n)] [Add (cx_Ex n)] [Mul (cx_S (cx_Ex n))] [One (cx_S (cx_Ex n))] [Add (cx_S (cx_Ex n))] [Zero (cx_S (cx_Ex n))] [Inhabited (cx_Idx (cx_Ex n))] [Inhabited (PLift (cx_Exl n))] [∀ s : cx_Sd n, Add (cx_MM s)] [∀ s : cx_Sd n, Inhabited (PLift (cx_MGl (cx_MM s)))] [∀ s : cx_Sd n, Inhabited (cx_Tord (cx_Ex n) (cx_MM s))] [Inhabited (PLift (cx_MMl n))] {s : cx_Sd n} {k : Fin n} {h h2 : cx_MM s → cx_S (cx_Ex n)} (hp : cx_Pair (cx_ee k) (cx_qq s k) (cx_vv (cx_rm s k) k) (cx_vv (cx_rp s k) k) (cx_dl k) (cx_ZZ s) h h2) :
    cx_Pair (cx_ee k) (cx_qq (cx_turn s k) k) (cx_vv (cx_rm (cx_turn s k) k) k) (cx_vv (cx_rp (cx_turn s k) k) k) (cx_dl k) (cx_ZZ (cx_turn s k)) (cx_trS s k (cx_rp s k) h2) (cx_trS s k (cx_rm s k) h) := by
  have tm := cx_trn (cx_rho_m s k)
  have tp := cx_trn (cx_rho_p s k)
  rw [cx_rm_turn, cx_rp_turn]
  refine ⟨cx_tr_good tp (cx_th_bnd _ k _) hp.gh2 hp.sh2, cx_tr_good tm (cx_th_bnd _ k _) hp.gh hp.sh, cx_tr_sup _, cx_tr_sup _, ?_, ?_, ?_⟩
  · rw [cx_turn_cj hp]
    unfold cx_cj
    rw [cx_comp_assoc, cx_comp_assoc, cx_E_add (cx_ee_nz k), show - cx_qq (cx_turn s k) k + cx_qq (cx_turn s k) k = 0 by grind, cx_E_zero (cx_ee_nz k), cx_comp_I]
  · exact cx_tr_whole tp (cx_zz_mu (cx_cc_p s k)) hp.wh2
  · exact cx_tr_whole tm (cx_zz_mu (cx_cc_m s k)) hp.wh
