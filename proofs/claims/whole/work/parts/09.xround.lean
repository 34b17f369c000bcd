section
variable {np ns cp cy rc : Nat} {mr : Int32} {nq : Int64} {ca ho st rm xse xbu xsc xqt xam xat xsy xib xnc xnh yse ybu ysc yqt yam yat ysy yib ync ynh : Nat → Int32} {xsq ysq : Nat → Int64}
theorem dv_ok_b1 {d nc : Int32} {nh se bu sc am : Nat → Int32} {i : Nat} (e : bu i = d) (h1 : 0 < am i) (h2 : nc < 0) : dv_ok d nc nh se bu sc am i = true := by
  unfold dv_ok
  rw [if_pos e, decide_eq_true h1, decide_eq_true h2]; rfl
theorem dv_ok_b0 {d nc : Int32} {nh se bu sc am : Nat → Int32} {i : Nat} (e : bu i = d) (h : ¬ 0 < am i ∨ ¬ nc < 0) : dv_ok d nc nh se bu sc am i = false := by
  unfold dv_ok
  rw [if_pos e]
  rcases h with h | h
  · rw [decide_eq_false h]; rfl
  · rw [decide_eq_false h, Bool.and_false]
theorem dv_ok_s1 {d nc : Int32} {nh se bu sc am : Nat → Int32} {i : Nat} (e : bu i ≠ d) (h1 : se i = d) (h2 : nh (sc i).toNatClampNeg < 0) : dv_ok d nc nh se bu sc am i = true := by
  unfold dv_ok
  rw [if_neg e, decide_eq_true h1, decide_eq_true h2]; rfl
theorem dv_ok_s0 {d nc : Int32} {nh se bu sc am : Nat → Int32} {i : Nat} (e : bu i ≠ d) (h : se i ≠ d ∨ ¬ nh (sc i).toNatClampNeg < 0) : dv_ok d nc nh se bu sc am i = false := by
  unfold dv_ok
  rw [if_neg e]
  rcases h with h | h
  · rw [decide_eq_false h]; rfl
  · rw [decide_eq_false h, Bool.and_false]
theorem xm_short {post : Int32 → Prop} {v : Int32} (h : post (dv_sf v)) : wpX_shortfall post v :=
  br_c (fun z => by rw [dv_sf_p (Int32.not_lt.mpr z)] at h; exact h) (fun z => by rw [dv_sf_n (Int32.not_le.mp z)] at h; exact h)
theorem xm_def {post : Int32 → Prop} {p : Nat} (s4 : ns ≤ 4) (hp : p < 8) (h : post (dv_df (xnc p) (fun s => xnh (p * 4 + s)) ns)) : wpX_deficitOf post (nI np, nI ns, nI cp, mr, nI rc, nq, nI cy, ca, ho, st, xse, xbu, xsc, xqt, xam, xat, xsy, xsq, xib, xnc, xnh, rm) (nI p) := by
  unfold wpX_deficitOf
  dsimp only
  rw [nI_clamp (by omega)]
  refine ⟨vp_in_nI hp (by omega), xm_short ?_⟩
  refine loop_0 (fun n i t => wX_deficitOf_12 post (nI p) (nI np) (nI ns) (nI cp) mr (nI rc) nq (nI cy) ca ho st xse xbu xsc xqt xam xat xsy xsq xib xnc xnh rm n t (nI i)) (fun i t => t = dv_df (xnc p) (fun s => xnh (p * 4 + s)) i) ns (dv_sf (xnc p)) rfl ?_ ?_
  · intro n t ht
    exact br_t (nI_le (Nat.le_refl _) (by omega)) (by rw [ht]; exact h)
  · intro n i t hi ht ih
    refine br_f (nI_ge hi (by omega)) (xm_hix ⟨vp_in_nI (by omega) (by omega), nm_r (e' := xnh (p * 4 + i)) (by rw [nI_clamp (by omega)]) (xm_short (nm_r (e' := dv_df (xnc p) (fun s => xnh (p * 4 + s)) (i + 1)) ?_ (nm_r (nI_1 i) (ih _ rfl))))⟩)
    rw [ht]; rfl
theorem xm_debtor {post : Int32 → Prop} (n8 : np ≤ 8) (s4 : ns ≤ 4) (h : post (dv_db (fun p => dv_df (xnc p) (fun s => xnh (p * 4 + s)) ns) np).1) : wpX_largestDebtor post (nI np, nI ns, nI cp, mr, nI rc, nq, nI cy, ca, ho, st, xse, xbu, xsc, xqt, xam, xat, xsy, xsq, xib, xnc, xnh, rm) := by
  refine loop_0 (fun n i (s : Int32 × Int32) => wX_largestDebtor_6 post (nI np) (nI ns) (nI cp) mr (nI rc) nq (nI cy) ca ho st xse xbu xsc xqt xam xat xsy xsq xib xnc xnh rm n s.1 s.2 (nI i)) (fun i s => s = dv_db (fun p => dv_df (xnc p) (fun s => xnh (p * 4 + s)) ns) i) np (-1, 0) rfl ?_ ?_
  · intro n s hs
    exact br_t (nI_le (Nat.le_refl _) (by omega)) (by rw [hs]; exact h)
  · intro n i s hi hs ih
    refine br_f (nI_ge hi (by omega)) (xm_def s4 (by omega) (br_c (fun z => nm_r (nI_1 i) (ih s ?_)) (fun z => nm_r (nI_1 i) (ih (nI i, dv_df (xnc i) (fun s => xnh (i * 4 + s)) ns) ?_))))
    · rw [hs] at z ⊢
      exact (if_pos z).symm
    · rw [hs] at z
      exact (if_neg z).symm
theorem dv_D_sp {se bu sc qt am b nc nh : Nat → Int32} (n8 : np ≤ 8) (s4 : ns ≤ 4) (hS : dv_Sp cp ca ho se bu sc qt am b nc nh) : (dv_db (fun p => dv_df (nc p) (fun s => nh (p * 4 + s)) ns) np).1 = dv_D np ns cp ca ho se bu sc qt am b := by
  unfold dv_D
  refine congrArg Prod.fst (dv_db_congr (fun p hp => ?_))
  show dv_df (nc p) _ ns = dv_df _ _ ns
  rw [hS.1 p (by omega)]
  exact dv_df_congr (fun s hs => hS.2 p s (by omega) (by omega))
theorem xm_remv {post : Int32 → Prop} {i D C : Nat} (hi : i < 64) (hD : D < 8) (hC : C < 4) (eC : xsc i = nI C)
    (h1 : dv_ok (nI D) (xnc D) (fun s => xnh (D * 4 + s)) xse xbu xsc xam i = true → post 1) (h0 : dv_ok (nI D) (xnc D) (fun s => xnh (D * 4 + s)) xse xbu xsc xam i = false → post 0) : wpX_isRemovable post (nI np, nI ns, nI cp, mr, nI rc, nq, nI cy, ca, ho, st, xse, xbu, xsc, xqt, xam, xat, xsy, xsq, xib, xnc, xnh, rm) (nI i) (nI D) := by
  have vi : vp_in (nI i) 64 := vp_in_nI hi (by omega)
  have vD : vp_in (nI D) 8 := vp_in_nI hD (by omega)
  have e8 : (xsc i).toNatClampNeg = C := by rw [eC]; exact nI_clamp (by omega)
  unfold wpX_isRemovable
  dsimp only
  rw [nI_clamp (n := i) (by omega), nI_clamp (n := D) (by omega), eC]
  refine ⟨vi, br_c (fun e => ⟨vi, br_c (fun z => h0 (dv_ok_b0 e (Or.inl (Int32.not_lt.mpr z)))) (fun z => ⟨vD, br_c (fun y => h0 (dv_ok_b0 e (Or.inr (Int32.not_lt.mpr y)))) (fun y => h1 (dv_ok_b1 e (Int32.not_le.mp z) (Int32.not_le.mp y)))⟩)⟩)
    (fun e => ⟨vi, br_c (fun z => ⟨vi, xm_hix ⟨vp_in_nI (by omega) (by omega), ?_⟩⟩) (fun z => h0 (dv_ok_s0 e (Or.inl z)))⟩)⟩
  rw [nI_clamp (by omega)]
  exact br_c (fun y => h0 (dv_ok_s0 e (Or.inr (by rw [e8]; exact Int32.not_lt.mpr y)))) (fun y => h1 (dv_ok_s1 e z (by rw [e8]; exact Int32.not_le.mp y)))
theorem xm_pick {post : Int32 → Prop} {D : Nat} (n8 : np ≤ 8) (s4 : ns ≤ 4) (c64 : cp ≤ 64) (hD : D < 8) (hV : dv_Val np ns xib xse xbu xsc)
    (h : post (dv_pk xib (dv_ok (nI D) (xnc D) (fun s => xnh (D * 4 + s)) xse xbu xsc xam) xsq cp)) : wpX_latestRemovable post (nI np, nI ns, nI cp, mr, nI rc, nq, nI cy, ca, ho, st, xse, xbu, xsc, xqt, xam, xat, xsy, xsq, xib, xnc, xnh, rm) (nI D) := by
  refine loop_0 (fun n i t => wX_latestRemovable_4 post (nI D) (nI np) (nI ns) (nI cp) mr (nI rc) nq (nI cy) ca ho st xse xbu xsc xqt xam xat xsy xsq xib xnc xnh rm n t (nI i)) (fun i t => t = dv_pk xib (dv_ok (nI D) (xnc D) (fun s => xnh (D * 4 + s)) xse xbu xsc xam) xsq i) cp (-1) rfl ?_ ?_
  · intro n t ht
    exact br_t (nI_le (Nat.le_refl _) (by omega)) (by rw [ht]; exact h)
  · intro n i t hi ht ih
    have vi : vp_in (nI i) 64 := vp_in_nI (by omega) (by omega)
    have ei : (nI i).toNatClampNeg = i := nI_clamp (by omega)
    refine br_f (nI_ge hi (by omega)) ⟨vi, br_c (fun z => nm_r (nI_1 i) (ih t ?_)) (fun z => ?_)⟩
    · rw [ei] at z
      rw [dv_pk_n (fun e => e.1 z)]; exact ht
    · rw [ei] at z
      obtain ⟨A, B, C, hA, hB, hC, hAB, eA, eB, eC⟩ := hV i z
      refine xm_remv (by omega) hD (C := C) (by omega) eC (fun k1 => ?_) (fun k0 => br_t rfl (nm_r (nI_1 i) (ih t ?_)))
      · refine br_f (by decide) (br_c (fun y => nm_r (nI_1 i) (ih (nI i) ?_)) (fun y => ⟨vi, ?_, ?_⟩))
        · rw [ht] at y
          exact (dv_pk_y ⟨z, k1, Or.inl y⟩).symm
        · rw [ht] at y ⊢
          rcases dv_pk_in xib (dv_ok (nI D) (xnc D) (fun s => xnh (D * 4 + s)) xse xbu xsc xam) xsq i with e | ⟨j, hj, e, _⟩
          · exact absurd e y
          · rw [e]; exact vp_in_nI (by omega) (by omega)
        · rw [ei]
          refine br_c (fun x => nm_r (nI_1 i) (ih t ?_)) (fun x => nm_r (nI_1 i) (ih (nI i) ?_))
          · rw [ht] at x y ⊢
            refine (dv_pk_n (fun e => ?_)).symm
            rcases e.2.2 with e | e
            · exact y e
            · exact Int64.not_le.mpr e x
          · rw [ht] at x
            exact (dv_pk_y ⟨z, k1, Or.inr (Int64.not_le.mp x)⟩).symm
      · rw [ht]
        refine (dv_pk_n (fun e => ?_)).symm
        rw [k0] at e
        exact absurd e.2.1 (by decide)
theorem dv_P_sp {D : Nat} {se bu sc qt am b nc nh : Nat → Int32} {sq : Nat → Int64} (n8 : np ≤ 8) (s4 : ns ≤ 4) (c64 : cp ≤ 64) (hD : D < 8) (hV : dv_Val np ns b se bu sc) (hS : dv_Sp cp ca ho se bu sc qt am b nc nh) :
    dv_pk b (dv_ok (nI D) (nc D) (fun s => nh (D * 4 + s)) se bu sc am) sq cp = dv_P cp ca ho se bu sc qt am sq (nI D) b := by
  unfold dv_P
  refine dv_pk_congr (by omega) (fun j _ hj => ⟨?_, rfl⟩)
  obtain ⟨A, B, C, hA, hB, hC, hAB, eA, eB, eC⟩ := hV j hj
  rw [hS.1 D hD, nI_clamp (n := D) (by omega)]
  refine dv_ok_congr rfl rfl rfl rfl ?_
  rw [eC, nI_clamp (n := C) (by omega)]
  exact hS.2 D C hD (by omega)
/-- one round of the component -/
theorem xm_round {post : SX → Prop} {n i : Nat} (n8 : np ≤ 8) (s4 : ns ≤ 4) (c64 : cp ≤ 64) (r64 : rc ≤ 64) (hi : i ≤ cp) (hV : dv_Val np ns xib xse xbu xsc)
    (h : ∀ nc nh, dv_Sp cp ca ho xse xbu xsc xqt xam xib nc nh →
      (dv_D np ns cp ca ho xse xbu xsc xqt xam xib = -1 → post (nI np, nI ns, nI cp, mr, nI rc, nq, nI cy, ca, ho, st, xse, xbu, xsc, xqt, xam, xat, xsy, xsq, xib, nc, nh, rm)) ∧
      (dv_D np ns cp ca ho xse xbu xsc xqt xam xib ≠ -1 → (dv_P cp ca ho xse xbu xsc xqt xam xsq (dv_D np ns cp ca ho xse xbu xsc xqt xam xib) xib = -1 ∨ 64 ≤ rc) → wX_removeUntilCovered_2 post n (nI (i + 1)) (nI np) (nI ns) (nI cp) mr (nI rc) nq (nI cy) ca ho st xse xbu xsc xqt xam xat xsy xsq xib nc nh rm) ∧
      (dv_D np ns cp ca ho xse xbu xsc xqt xam xib ≠ -1 → rc < 64 → ∀ j, j < cp → dv_P cp ca ho xse xbu xsc xqt xam xsq (dv_D np ns cp ca ho xse xbu xsc xqt xam xib) xib = nI j →
        wX_removeUntilCovered_2 post n (nI (i + 1)) (nI np) (nI ns) (nI cp) mr (nI (rc + 1)) nq (nI cy) ca ho st xse xbu xsc xqt xam xat xsy xsq (upd xib j 0) nc nh (upd rm rc (nI j)))) :
    wX_removeUntilCovered_2 post (n + 1) (nI i) (nI np) (nI ns) (nI cp) mr (nI rc) nq (nI cy) ca ho st xse xbu xsc xqt xam xat xsy xsq xib xnc xnh rm := by
  refine br_f (nI_nlt hi (by omega)) (xm_nets n8 s4 c64 hV (fun nc nh hS => xm_debtor n8 s4 ?_))
  obtain ⟨k1, k2, k3⟩ := h nc nh hS
  rw [dv_D_sp n8 s4 hS]
  refine br_c k1 (fun z => ?_)
  obtain ⟨D, hD, eD⟩ : ∃ D, D < 8 ∧ dv_D np ns cp ca ho xse xbu xsc xqt xam xib = nI D := by
    rcases dv_db_in (fun p => dv_df (dv_nc ca xib xse xbu xam p cp) (fun s => dv_nh ho xib xse xbu xsc xqt p s cp) ns) np with e | ⟨j, hj, e⟩
    · exact absurd e z
    · exact ⟨j, by omega, e⟩
  rw [eD] at k2 k3 z ⊢
  refine xm_pick n8 s4 c64 hD hV ?_
  rw [dv_P_sp n8 s4 c64 hD hV hS]
  refine br_c (fun y => nm_r (nI_1 i) (k2 z (Or.inl y))) (fun y => ?_)
  obtain ⟨j, hj, ej⟩ : ∃ j, j < cp ∧ dv_P cp ca ho xse xbu xsc xqt xam xsq (nI D) xib = nI j := by
    rcases dv_pk_in xib (dv_ok (nI D) (dv_nc ca xib xse xbu xam (nI D).toNatClampNeg cp) (fun s => dv_nh ho xib xse xbu xsc xqt (nI D).toNatClampNeg s cp) xse xbu xsc xam) xsq cp with e | ⟨j, hj, e, _⟩
    · exact absurd e y
    · exact ⟨j, hj, e⟩
  by_cases hr : rc < 64
  · have k4 := k3 z hr j hj ej
    rw [ej]
    refine br_t (nI_lt (b := 64) hr (by omega)) ⟨vp_in_nI (by omega) (by omega), nm_r (e' := upd xib j 0) (by rw [nI_clamp (by omega), dv_nb0]) ⟨vp_in_nI hr (by omega), nm_r (e' := upd rm rc (nI j)) (by rw [nI_clamp (by omega)]) (nm_r (nI_1 rc) (nm_r (nI_1 i) k4))⟩⟩
  · exact br_f (nI_nlt (b := 64) (by omega) (by omega)) (nm_r (nI_1 i) (k2 z (Or.inr (by omega))))
theorem xm_round_e {post : SX → Prop} {n : Nat} (c64 : cp ≤ 64) (h : post (nI np, nI ns, nI cp, mr, nI rc, nq, nI cy, ca, ho, st, xse, xbu, xsc, xqt, xam, xat, xsy, xsq, xib, xnc, xnh, rm)) : wX_removeUntilCovered_2 post (n + 1) (nI (cp + 1)) (nI np) (nI ns) (nI cp) mr (nI rc) nq (nI cy) ca ho st xse xbu xsc xqt xam xat xsy xsq xib xnc xnh rm :=
  br_t (nI_lt (by omega) (by omega)) h
end
