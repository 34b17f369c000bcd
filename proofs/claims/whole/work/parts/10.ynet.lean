section
variable {np ns cp cy rc : Nat} {mr : Int32} {nq : Int64} {ca ho st rm xse xbu xsc xqt xam xat xsy xib xnc xnh yse ybu ysc yqt yam yat ysy yib ync ynh : Nat → Int32} {xsq ysq : Nat → Int64}
theorem ym_nc45 {post : Int32 → Prop} {J : Int32 → Int32 → Prop} {p i : Nat} {t : Int32} (hi : i < 64) (hb : ybu i = nI p → J (t - yam i) (nI (i + 1))) (hn : ybu i ≠ nI p → J t (nI (i + 1))) : wY_netCashOf_45 post J (nI p) t (nI i) (nI np) (nI ns) (nI cp) mr (nI cy) (nI rc) nq ca ho yse ybu ysc yqt yam st yat ysy ysq rm ync ynh yib := by
  have vi : vp_in (nI i) 64 := vp_in_nI hi (by omega)
  unfold wY_netCashOf_45
  rw [nI_clamp (n := i) (by omega)]
  exact ⟨vi, br_c (fun e => ⟨vi, nm_e (nm_r (nI_1 i) (hb e))⟩) (fun e => nm_r (nI_1 i) (hn e))⟩
theorem ym_nc {post : Int32 → Prop} {p : Nat} (n8 : np ≤ 8) (c64 : cp ≤ 64) (hp : p < 8) (hV : dv_Val np ns yib yse ybu ysc) (h : post (dv_nc ca yib yse ybu yam p cp)) : wpY_netCashOf post (nI np, nI ns, nI cp, mr, nI cy, nI rc, nq, ca, ho, yse, ybu, ysc, yqt, yam, st, yat, ysy, ysq, rm, ync, ynh, yib) (nI p) := by
  unfold wpY_netCashOf
  dsimp only
  refine ⟨vp_in_nI hp (by omega), nm_r (e' := ca p) (by rw [nI_clamp (by omega)]) ?_⟩
  refine loop_0 (fun n i t => wY_netCashOf_9 post (nI p) (nI np) (nI ns) (nI cp) mr (nI cy) (nI rc) nq ca ho yse ybu ysc yqt yam st yat ysy ysq rm ync ynh yib n t (nI i)) (fun i t => t = dv_nc ca yib yse ybu yam p i) cp (ca p) rfl ?_ ?_
  · intro n t ht
    exact br_t (nI_le (Nat.le_refl _) (by omega)) (by rw [ht]; exact h)
  · intro n i t hi ht ih
    have vi : vp_in (nI i) 64 := vp_in_nI (by omega) (by omega)
    have ei : (nI i).toNatClampNeg = i := nI_clamp (by omega)
    refine br_f (nI_ge hi (by omega)) ⟨vi, br_c (fun z => nm_r (nI_1 i) (ih t ?_)) (fun z => ⟨vi, br_c (fun e => ⟨vi, nm_r (e' := t + yam i) (by rw [ei]) (ym_nc45 (by omega) (fun e2 => ?_) (fun _ => ih _ ?_))⟩) (fun e => ym_nc45 (by omega) (fun e2 => ih _ ?_) (fun e2 => ih _ ?_))⟩)⟩
    · rw [ei] at z
      rw [dv_nc_s, dv_c1_0 z]; exact ht
    · rw [ei] at z e
      obtain ⟨A, B, C, hA, hB, hC, hAB, eA, eB, eC⟩ := hV i z
      exact absurd ((nI_eq (by omega) (by omega)).mp (eA.symm.trans (e.trans (e2.symm.trans eB)))) hAB
    · rw [ei] at z e
      rw [dv_nc_s, dv_c1_s z e, ht]
    · rw [ei] at z e
      rw [dv_nc_s, dv_c1_b z e e2, ht]
    · rw [ei] at z e
      rw [dv_nc_s, dv_c1_n e e2, ht]
theorem ym_nh65 {post : Int32 → Prop} {J : Int32 → Int32 → Prop} {p s i : Nat} {t : Int32} (hi : i < 64) (hb : yse i = nI p → J (t - yqt i) (nI (i + 1))) (hn : yse i ≠ nI p → J t (nI (i + 1))) : wY_netSecOf_65 post J (nI p) (nI s) t (nI i) (nI np) (nI ns) (nI cp) mr (nI cy) (nI rc) nq ca ho yse ybu ysc yqt yam st yat ysy ysq rm ync ynh yib := by
  have vi : vp_in (nI i) 64 := vp_in_nI hi (by omega)
  unfold wY_netSecOf_65
  rw [nI_clamp (n := i) (by omega)]
  exact ⟨vi, br_c (fun e => ⟨vi, nm_e (nm_r (nI_1 i) (hb e))⟩) (fun e => nm_r (nI_1 i) (hn e))⟩
theorem ym_nh {post : Int32 → Prop} {p s : Nat} (n8 : np ≤ 8) (c64 : cp ≤ 64) (hp : p < 8) (hs : s < 4) (hV : dv_Val np ns yib yse ybu ysc) (h : post (dv_nh ho yib yse ybu ysc yqt p s cp)) : wpY_netSecOf post (nI np, nI ns, nI cp, mr, nI cy, nI rc, nq, ca, ho, yse, ybu, ysc, yqt, yam, st, yat, ysy, ysq, rm, ync, ynh, yib) (nI p) (nI s) := by
  unfold wpY_netSecOf
  dsimp only
  rw [dv_hx, nI_clamp (n := p * 4 + s) (by omega)]
  refine ⟨vp_in_nI (by omega) (by omega), nm_e ?_⟩
  refine loop_0 (fun n i t => wY_netSecOf_14 post (nI p) (nI s) (nI np) (nI ns) (nI cp) mr (nI cy) (nI rc) nq ca ho yse ybu ysc yqt yam st yat ysy ysq rm ync ynh yib n t (nI i)) (fun i t => t = dv_nh ho yib yse ybu ysc yqt p s i) cp (ho (p * 4 + s)) rfl ?_ ?_
  · intro n t ht
    exact br_t (nI_le (Nat.le_refl _) (by omega)) (by rw [ht]; exact h)
  · intro n i t hi ht ih
    have vi : vp_in (nI i) 64 := vp_in_nI (by omega) (by omega)
    have ei : (nI i).toNatClampNeg = i := nI_clamp (by omega)
    refine br_f (nI_ge hi (by omega)) ⟨vi, br_c (fun z => nm_r (nI_1 i) (ih t ?_)) (fun z => ⟨vi, br_c (fun c => ⟨vi, br_c (fun e => ⟨vi, nm_r (e' := t + yqt i) (by rw [ei]) (ym_nh65 (by omega) (fun e2 => ?_) (fun e2 => ih _ ?_))⟩) (fun e => ym_nh65 (by omega) (fun e2 => ih _ ?_) (fun e2 => ih _ ?_))⟩) (fun c => nm_r (nI_1 i) (ih t ?_))⟩)⟩
    · rw [ei] at z
      rw [dv_nh_s, dv_h1_0 z]; exact ht
    · rw [ei] at z e
      obtain ⟨A, B, C, hA, hB, hC, hAB, eA, eB, eC⟩ := hV i z
      exact absurd ((nI_eq (by omega) (by omega)).mp (eA.symm.trans (e2.trans (e.symm.trans eB)))) hAB
    · rw [ei] at z e c
      rw [dv_nh_s, dv_h1_b z c e2 e, ht]
    · rw [ei] at z e c
      rw [dv_nh_s, dv_h1_s z c e2, ht]
    · rw [ei] at z e c
      rw [dv_nh_s, dv_h1_n e2 e, ht]
    · rw [ei] at z c
      rw [dv_nh_s, dv_h1_c c, ht]
theorem ym_def {post : Int32 → Prop} {p : Nat} (n8 : np ≤ 8) (s4 : ns ≤ 4) (c64 : cp ≤ 64) (hp : p < 8) (hV : dv_Val np ns yib yse ybu ysc) (h : post (dv_df (dv_nc ca yib yse ybu yam p cp) (fun s => dv_nh ho yib yse ybu ysc yqt p s cp) ns)) : wpY_deficitOf post (nI np, nI ns, nI cp, mr, nI cy, nI rc, nq, ca, ho, yse, ybu, ysc, yqt, yam, st, yat, ysy, ysq, rm, ync, ynh, yib) (nI p) := by
  have L : ∃ n, wY_deficitOf_19 post (nI p) (nI np) (nI ns) (nI cp) mr (nI cy) (nI rc) nq ca ho yse ybu ysc yqt yam st yat ysy ysq rm ync ynh yib n (dv_sf (dv_nc ca yib yse ybu yam p cp)) 0 := by
    refine loop_0 (fun n i t => wY_deficitOf_19 post (nI p) (nI np) (nI ns) (nI cp) mr (nI cy) (nI rc) nq ca ho yse ybu ysc yqt yam st yat ysy ysq rm ync ynh yib n t (nI i)) (fun i t => t = dv_df (dv_nc ca yib yse ybu yam p cp) (fun s => dv_nh ho yib yse ybu ysc yqt p s cp) i) ns (dv_sf (dv_nc ca yib yse ybu yam p cp)) rfl ?_ ?_
    · intro n t ht
      exact br_t (nI_le (Nat.le_refl _) (by omega)) (by rw [ht]; exact h)
    · intro n i t hi ht ih
      refine br_f (nI_ge hi (by omega)) (ym_nh n8 c64 hp (by omega) hV (br_c (fun z => nm_r (nI_1 i) (ih t ?_)) (fun z => nm_r (e' := dv_df (dv_nc ca yib yse ybu yam p cp) (fun s => dv_nh ho yib yse ybu ysc yqt p s cp) (i + 1)) ?_ (nm_r (nI_1 i) (ih _ rfl)))))
      · rw [ht]; exact dv_y2 (Int32.not_lt.mpr z)
      · rw [ht]; exact dv_y1 (Int32.not_le.mp z)
  unfold wpY_deficitOf
  dsimp only
  refine ym_nc n8 c64 hp hV (br_c (fun z => ?_) (fun z => nm_r (e' := dv_sf (dv_nc ca yib yse ybu yam p cp)) (dv_y0 (Int32.not_le.mp z)) L))
  rw [dv_sf_p (Int32.not_lt.mpr z)] at L
  exact L
theorem ym_p94 {post : Int32 → Prop} {J : Int32 → Int32 → Prop} {x1 x2 x5 t : Int32} {i : Nat} (hi : i < 64) (h0 : x5 = 0 → J t (nI (i + 1))) (h1 : x5 ≠ 0 → t < 0 → J (nI i) (nI (i + 1))) (hv : ¬ t < 0 → vp_in t 64)
    (h2 : x5 ≠ 0 → ¬ t < 0 → ysq i ≤ ysq t.toNatClampNeg → J t (nI (i + 1))) (h3 : x5 ≠ 0 → ¬ t < 0 → ¬ ysq i ≤ ysq t.toNatClampNeg → J (nI i) (nI (i + 1))) : wY_pickRemovable_94 post J x1 x2 t (nI i) x5 (nI np) (nI ns) (nI cp) mr (nI cy) (nI rc) nq ca ho yse ybu ysc yqt yam st yat ysy ysq rm ync ynh yib := by
  have vi : vp_in (nI i) 64 := vp_in_nI hi (by omega)
  unfold wY_pickRemovable_94
  rw [nI_clamp (n := i) (by omega)]
  exact br_c (fun z => nm_r (nI_1 i) (h0 z)) (fun z => br_c (fun y => nm_r (nI_1 i) (h1 z y)) (fun y => ⟨vi, hv y, br_c (fun x => nm_r (nI_1 i) (h2 z y x)) (fun x => nm_r (nI_1 i) (h3 z y x))⟩))
theorem ym_p61 {post : Int32 → Prop} {J : Int32 → Int32 → Prop} {x2 x5 t : Int32} {i D C : Nat} (n8 : np ≤ 8) (c64 : cp ≤ 64) (hi : i < 64) (hD : D < 8) (hC : C < 4) (eC : ysc i = nI C) (hV : dv_Val np ns yib yse ybu ysc)
    (h1 : yse i = nI D → dv_nh ho yib yse ybu ysc yqt D C cp < 0 → wY_pickRemovable_94 post J (nI D) x2 t (nI i) 1 (nI np) (nI ns) (nI cp) mr (nI cy) (nI rc) nq ca ho yse ybu ysc yqt yam st yat ysy ysq rm ync ynh yib)
    (h2 : yse i = nI D → ¬ dv_nh ho yib yse ybu ysc yqt D C cp < 0 → wY_pickRemovable_94 post J (nI D) x2 t (nI i) x5 (nI np) (nI ns) (nI cp) mr (nI cy) (nI rc) nq ca ho yse ybu ysc yqt yam st yat ysy ysq rm ync ynh yib)
    (h3 : yse i ≠ nI D → wY_pickRemovable_94 post J (nI D) x2 t (nI i) x5 (nI np) (nI ns) (nI cp) mr (nI cy) (nI rc) nq ca ho yse ybu ysc yqt yam st yat ysy ysq rm ync ynh yib) : wY_pickRemovable_61 post J (nI D) x2 t (nI i) x5 (nI np) (nI ns) (nI cp) mr (nI cy) (nI rc) nq ca ho yse ybu ysc yqt yam st yat ysy ysq rm ync ynh yib := by
  have vi : vp_in (nI i) 64 := vp_in_nI hi (by omega)
  unfold wY_pickRemovable_61
  rw [nI_clamp (n := i) (by omega), eC]
  exact ⟨vi, br_c (fun e => ⟨vi, ym_nh n8 c64 hD hC hV (br_c (fun z => h2 e (Int32.not_lt.mpr z)) (fun z => h1 e (Int32.not_le.mp z)))⟩) h3⟩
theorem ym_pick {post : Int32 → Prop} {D : Nat} (n8 : np ≤ 8) (s4 : ns ≤ 4) (c64 : cp ≤ 64) (hD : D < 8) (hV : dv_Val np ns yib yse ybu ysc)
    (h : post (dv_P cp ca ho yse ybu ysc yqt yam ysq (nI D) yib)) : wpY_pickRemovable post (nI np, nI ns, nI cp, mr, nI cy, nI rc, nq, ca, ho, yse, ybu, ysc, yqt, yam, st, yat, ysy, ysq, rm, ync, ynh, yib) (nI D) := by
  have eD : (nI D).toNatClampNeg = D := nI_clamp (by omega)
  unfold dv_P at h
  rw [eD] at h
  unfold wpY_pickRemovable
  dsimp only
  refine ym_nc n8 c64 hD hV ?_
  refine loop_0 (fun n i t => wY_pickRemovable_11 post (nI D) (dv_nc ca yib yse ybu yam D cp) (nI np) (nI ns) (nI cp) mr (nI cy) (nI rc) nq ca ho yse ybu ysc yqt yam st yat ysy ysq rm ync ynh yib n t (nI i)) (fun i t => t = dv_pk yib (dv_ok (nI D) (dv_nc ca yib yse ybu yam D cp) (fun s => dv_nh ho yib yse ybu ysc yqt D s cp) yse ybu ysc yam) ysq i) cp (-1) rfl ?_ ?_
  · intro n t ht
    exact br_t (nI_le (Nat.le_refl _) (by omega)) (by rw [ht]; exact h)
  · intro n i t hi ht ih
    have vi : vp_in (nI i) 64 := vp_in_nI (by omega) (by omega)
    have ei : (nI i).toNatClampNeg = i := nI_clamp (by omega)
    refine br_f (nI_ge hi (by omega)) ⟨vi, br_c (fun z => nm_r (nI_1 i) (ih t ?_)) (fun z => ⟨vi, ?_⟩)⟩
    · rw [ei] at z
      rw [dv_pk_n (fun e => e.1 z)]; exact ht
    · rw [ei] at z ⊢
      obtain ⟨A, B, C, hA, hB, hC, hAB, eA, eB, eC⟩ := hV i z
      have hneg : t < 0 ↔ t = -1 := by
        rw [ht]
        rcases dv_pk_in yib (dv_ok (nI D) (dv_nc ca yib yse ybu yam D cp) (fun s => dv_nh ho yib yse ybu ysc yqt D s cp) yse ybu ysc yam) ysq i with e | ⟨j, hj, e, _⟩
        · rw [e]; exact ⟨fun _ => rfl, fun _ => by decide⟩
        · rw [e]; exact ⟨fun x => absurd x (nI_pos (by omega)), fun x => absurd x (dv_m1 (by omega))⟩
      have hvt : ¬ t < 0 → vp_in t 64 := by
        intro y
        rw [hneg] at y
        rw [ht] at y ⊢
        rcases dv_pk_in yib (dv_ok (nI D) (dv_nc ca yib yse ybu yam D cp) (fun s => dv_nh ho yib yse ybu ysc yqt D s cp) yse ybu ysc yam) ysq i with e | ⟨j, hj, e, _⟩
        · exact absurd e y
        · rw [e]; exact vp_in_nI (by omega) (by omega)
      have fin0 : dv_ok (nI D) (dv_nc ca yib yse ybu yam D cp) (fun s => dv_nh ho yib yse ybu ysc yqt D s cp) yse ybu ysc yam i = false →
          wY_pickRemovable_94 post (wY_pickRemovable_11 post (nI D) (dv_nc ca yib yse ybu yam D cp) (nI np) (nI ns) (nI cp) mr (nI cy) (nI rc) nq ca ho yse ybu ysc yqt yam st yat ysy ysq rm ync ynh yib n) (nI D) (dv_nc ca yib yse ybu yam D cp) t (nI i) 0 (nI np) (nI ns) (nI cp) mr (nI cy) (nI rc) nq ca ho yse ybu ysc yqt yam st yat ysy ysq rm ync ynh yib := by
        intro k0
        refine ym_p94 (by omega) (fun _ => ih t ?_) (fun y => absurd rfl y) hvt (fun y => absurd rfl y) (fun y => absurd rfl y)
        rw [ht]
        refine (dv_pk_n (fun e => ?_)).symm
        rw [k0] at e
        exact absurd e.2.1 (by decide)
      have fin1 : dv_ok (nI D) (dv_nc ca yib yse ybu yam D cp) (fun s => dv_nh ho yib yse ybu ysc yqt D s cp) yse ybu ysc yam i = true →
          wY_pickRemovable_94 post (wY_pickRemovable_11 post (nI D) (dv_nc ca yib yse ybu yam D cp) (nI np) (nI ns) (nI cp) mr (nI cy) (nI rc) nq ca ho yse ybu ysc yqt yam st yat ysy ysq rm ync ynh yib n) (nI D) (dv_nc ca yib yse ybu yam D cp) t (nI i) 1 (nI np) (nI ns) (nI cp) mr (nI cy) (nI rc) nq ca ho yse ybu ysc yqt yam st yat ysy ysq rm ync ynh yib := by
        intro k1
        refine ym_p94 (by omega) (fun y => absurd y (by decide)) (fun _ y => ih (nI i) ?_) hvt (fun _ y x => ih t ?_) (fun _ y x => ih (nI i) ?_)
        · rw [hneg, ht] at y
          exact (dv_pk_y ⟨z, k1, Or.inl y⟩).symm
        · rw [hneg] at y
          rw [ht] at x y ⊢
          refine (dv_pk_n (fun e => ?_)).symm
          rcases e.2.2 with e | e
          · exact y e
          · exact Int64.not_le.mpr e x
        · rw [ht] at x
          exact (dv_pk_y ⟨z, k1, Or.inr (Int64.not_le.mp x)⟩).symm
      have e8 : (ysc i).toNatClampNeg = C := by rw [eC]; exact nI_clamp (by omega)
      refine br_c (fun e => ⟨vi, ?_⟩) (fun e => ?_)
      · have ns' : yse i ≠ nI D := fun e2 => absurd ((nI_eq (by omega) (by omega)).mp (eA.symm.trans (e2.trans (e.symm.trans eB)))) hAB
        refine br_c (fun a => ?_) (fun a => br_c (fun b => ?_) (fun b => ?_))
        · exact ym_p61 n8 c64 (by omega) hD (by omega) eC hV (fun x => absurd x ns') (fun x => absurd x ns') (fun _ => fin0 (dv_ok_b0 e (Or.inl (Int32.not_lt.mpr a))))
        · exact ym_p61 n8 c64 (by omega) hD (by omega) eC hV (fun x => absurd x ns') (fun x => absurd x ns') (fun _ => fin0 (dv_ok_b0 e (Or.inr (Int32.not_lt.mpr b))))
        · exact ym_p61 n8 c64 (by omega) hD (by omega) eC hV (fun x => absurd x ns') (fun x => absurd x ns') (fun _ => fin1 (dv_ok_b1 e (Int32.not_le.mp a) (Int32.not_le.mp b)))
      · exact ym_p61 n8 c64 (by omega) hD (by omega) eC hV (fun x y => fin1 (dv_ok_s1 e x (by rw [e8]; exact y))) (fun x y => fin0 (dv_ok_s0 e (Or.inr (by rw [e8]; exact y)))) (fun x => fin0 (dv_ok_s0 e (Or.inl x)))
end
