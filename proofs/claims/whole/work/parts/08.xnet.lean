section
variable {np ns cp cy rc : Nat} {mr : Int32} {nq : Int64} {ca ho st rm xse xbu xsc xqt xam xat xsy xib xnc xnh yse ybu ysc yqt yam yat ysy yib ync ynh : Nat → Int32} {xsq ysq : Nat → Int64}
theorem dv_nb0 : vp_nar .boolean 0 = 0 := by first | rfl | decide
theorem dv_nb1 : vp_nar .boolean 1 = 1 := by first | rfl | decide
theorem xm_gather {post : SX → Prop} (c64 : cp ≤ 64) (hz : ∀ j, cp ≤ j → xib j = 0) (h : post (nI np, nI ns, nI cp, mr, nI rc, nq, nI cy, ca, ho, st, xse, xbu, xsc, xqt, xam, xat, xsy, xsq, dv_bt st cp, xnc, xnh, rm)) : wpX_gatherBatch post (nI np, nI ns, nI cp, mr, nI rc, nq, nI cy, ca, ho, st, xse, xbu, xsc, xqt, xam, xat, xsy, xsq, xib, xnc, xnh, rm) := by
  refine loop_0 (fun n i (b : Nat → Int32) => wX_gatherBatch_2 post (nI np) (nI ns) (nI cp) mr (nI rc) nq (nI cy) n (nI i) ca ho st xse xbu xsc xqt xam xat xsy xsq b xnc xnh rm) (fun i b => b = dv_cpy (dv_bt st cp) xib i) cp xib (dv_cpy_0 _ _).symm ?_ ?_
  · intro n b hb
    exact br_t (nI_le (Nat.le_refl _) (by omega)) (by rw [hb, dv_bt_x (Nat.le_refl _) hz]; exact h)
  · intro n i b hi hb ih
    have vi : vp_in (nI i) 64 := vp_in_nI (by omega) (by omega)
    have ei : (nI i).toNatClampNeg = i := nI_clamp (by omega)
    refine br_f (nI_ge hi (by omega)) ⟨vi, br_c (fun z => ⟨vi, nm_r (e' := dv_cpy (dv_bt st cp) xib (i + 1)) ?_ (nm_r (nI_1 i) (ih _ rfl))⟩) (fun z => ⟨vi, nm_r (e' := dv_cpy (dv_bt st cp) xib (i + 1)) ?_ (nm_r (nI_1 i) (ih _ rfl))⟩)⟩
    · rw [ei] at z
      rw [hb, ei, dv_nb1, ← dv_cpy_s, dv_bt_1 hi z]
    · rw [ei] at z
      rw [hb, ei, dv_nb0, ← dv_cpy_s, dv_bt_0 (fun d => z d.2)]
theorem xm_take2 {post : SX → Prop} (h : post (nI np, nI ns, nI cp, mr, nI rc, nq, nI cy, ca, dv_cpy xnh ho 32, st, xse, xbu, xsc, xqt, xam, xat, xsy, xsq, xib, xnc, xnh, rm)) : ∃ n, wX_takeNetsAsBalances_28 post (nI np) (nI ns) (nI cp) mr (nI rc) nq (nI cy) n 0 ca ho st xse xbu xsc xqt xam xat xsy xsq xib xnc xnh rm := by
  refine loop_0 (fun n i (b : Nat → Int32) => wX_takeNetsAsBalances_28 post (nI np) (nI ns) (nI cp) mr (nI rc) nq (nI cy) n (nI i) ca b st xse xbu xsc xqt xam xat xsy xsq xib xnc xnh rm) (fun i b => b = dv_cpy xnh ho i) 32 ho (dv_cpy_0 _ _).symm ?_ ?_
  · intro n b hb
    exact br_t (nI_le (a := 32) (Nat.le_refl _) (by omega)) (by rw [hb]; exact h)
  · intro n i b hi hb ih
    have vi : vp_in (nI i) 32 := vp_in_nI (by omega) (by omega)
    have ei : (nI i).toNatClampNeg = i := nI_clamp (by omega)
    refine br_f (nI_ge (b := 32) hi (by omega)) ⟨vi, vi, nm_r (e' := dv_cpy xnh ho (i + 1)) ?_ (nm_r (nI_1 i) (ih _ rfl))⟩
    rw [hb, ei, ← dv_cpy_s]
theorem xm_take {post : SX → Prop} (h : post (nI np, nI ns, nI cp, mr, nI rc, nq, nI cy, dv_cpy xnc ca 8, dv_cpy xnh ho 32, st, xse, xbu, xsc, xqt, xam, xat, xsy, xsq, xib, xnc, xnh, rm)) : wpX_takeNetsAsBalances post (nI np, nI ns, nI cp, mr, nI rc, nq, nI cy, ca, ho, st, xse, xbu, xsc, xqt, xam, xat, xsy, xsq, xib, xnc, xnh, rm) := by
  refine loop_0 (fun n i (b : Nat → Int32) => wX_takeNetsAsBalances_2 post (nI np) (nI ns) (nI cp) mr (nI rc) nq (nI cy) n (nI i) b ho st xse xbu xsc xqt xam xat xsy xsq xib xnc xnh rm) (fun i b => b = dv_cpy xnc ca i) 8 ca (dv_cpy_0 _ _).symm ?_ ?_
  · intro n b hb
    refine br_t (nI_le (a := 8) (Nat.le_refl _) (by omega)) ?_
    rw [hb]
    exact xm_take2 h
  · intro n i b hi hb ih
    have vi : vp_in (nI i) 8 := vp_in_nI (by omega) (by omega)
    have ei : (nI i).toNatClampNeg = i := nI_clamp (by omega)
    refine br_f (nI_ge (b := 8) hi (by omega)) ⟨vi, vi, nm_r (e' := dv_cpy xnc ca (i + 1)) ?_ (nm_r (nI_1 i) (ih _ rfl))⟩
    rw [hb, ei, ← dv_cpy_s]
theorem xm_mark {post : Int32 → SX → Prop} (c64 : cp ≤ 64) (h : post (nI (dv_cn xib cp)) (nI np, nI ns, nI cp, mr, nI rc, nq, nI cy, ca, ho, dv_mk xib st 2 cp, xse, xbu, xsc, xqt, xam, xat, dv_mk xib xsy (nI cy) cp, xsq, xib, xnc, xnh, rm)) : wpX_markBatchSettled post (nI np, nI ns, nI cp, mr, nI rc, nq, nI cy, ca, ho, st, xse, xbu, xsc, xqt, xam, xat, xsy, xsq, xib, xnc, xnh, rm) := by
  refine loop_0 (fun n i (s : Int32 × (Nat → Int32) × (Nat → Int32)) => wX_markBatchSettled_4 post (nI np) (nI ns) (nI cp) mr (nI rc) nq (nI cy) n s.1 (nI i) ca ho s.2.1 xse xbu xsc xqt xam xat s.2.2 xsq xib xnc xnh rm) (fun i s => s = (nI (dv_cn xib i), dv_mk xib st 2 i, dv_mk xib xsy (nI cy) i)) cp (0, st, xsy) (by rw [dv_mk_0, dv_mk_0]; rfl) ?_ ?_
  · intro n s hs
    exact br_t (nI_le (Nat.le_refl _) (by omega)) (by rw [hs]; exact h)
  · intro n i s hi hs ih
    subst hs
    have vi : vp_in (nI i) 64 := vp_in_nI (by omega) (by omega)
    have ei : (nI i).toNatClampNeg = i := nI_clamp (by omega)
    refine br_f (nI_ge hi (by omega)) ⟨vi, br_c (fun z => nm_r (nI_1 i) (ih _ ?_)) (fun z => ⟨vi, nm_r (e' := dv_mk xib st 2 (i + 1)) ?_ ⟨vi, nm_r (e' := dv_mk xib xsy (nI cy) (i + 1)) ?_ (nm_r (e' := nI (dv_cn xib (i + 1))) ?_ (nm_r (nI_1 i) (ih _ rfl)))⟩⟩)⟩
    · rw [ei] at z
      rw [dv_cn_s0 z, dv_mk_n z, dv_mk_n z]
    · rw [ei] at z
      rw [ei]; exact dv_mk_y z
    · rw [ei] at z
      rw [ei]; exact dv_mk_y z
    · rw [ei] at z
      rw [dv_cn_s1 z]; exact nI_1 _
theorem xm_recycle {post : SX → Prop} (r64 : rc ≤ 64) (hR : ∀ k, k < rc → ∃ j, j < 64 ∧ rm k = nI j) (h : post (nI np, nI ns, nI cp, mr, nI rc, nq, nI cy, ca, ho, dv_fs rm xat st mr rc, xse, xbu, xsc, xqt, xam, dv_at rm xat rc, xsy, xsq, xib, xnc, xnh, rm)) : wpX_recycleRemoved post (nI np, nI ns, nI cp, mr, nI rc, nq, nI cy, ca, ho, st, xse, xbu, xsc, xqt, xam, xat, xsy, xsq, xib, xnc, xnh, rm) := by
  refine loop_0 (fun n i (s : (Nat → Int32) × (Nat → Int32)) => wX_recycleRemoved_2 post (nI np) (nI ns) (nI cp) mr (nI rc) nq (nI cy) n (nI i) ca ho s.1 xse xbu xsc xqt xam s.2 xsy xsq xib xnc xnh rm) (fun i s => s = (dv_fs rm xat st mr i, dv_at rm xat i)) rc (st, xat) rfl ?_ ?_
  · intro n s hs
    exact br_t (nI_le (Nat.le_refl _) (by omega)) (by rw [hs]; exact h)
  · intro n i s hi hs ih
    subst hs
    have vi : vp_in (nI i) 64 := vp_in_nI (by omega) (by omega)
    have ei : (nI i).toNatClampNeg = i := nI_clamp (by omega)
    obtain ⟨j, hj, ej⟩ := hR i hi
    have vj : vp_in (rm i) 64 := by rw [ej]; exact vp_in_nI hj (by omega)
    refine br_f (nI_ge hi (by omega)) ⟨vi, nm_r (e' := rm i) (by rw [ei]) ⟨vj, vj, nm_r (e' := dv_at rm xat (i + 1)) rfl ⟨vj, br_c (fun z => nm_r (nI_1 i) (ih (dv_fs rm xat st mr i, dv_at rm xat (i + 1)) ?_)) (fun z => ⟨vj, nm_r (e' := dv_fs rm xat st mr (i + 1)) ?_ (nm_r (nI_1 i) (ih _ rfl))⟩)⟩⟩⟩
    · have e : dv_fs rm xat st mr (i + 1) = dv_fs rm xat st mr i := if_pos z
      rw [e]
    · exact (if_neg z).symm
theorem xm_add {post : SX → Prop} {i A B C : Nat} (hi : i < 64) (hA : A < 8) (hB : B < 8) (hC : C < 4) (eA : xse i = nI A) (eB : xbu i = nI B) (eC : xsc i = nI C)
    (h : post (nI np, nI ns, nI cp, mr, nI rc, nq, nI cy, ca, ho, st, xse, xbu, xsc, xqt, xam, xat, xsy, xsq, xib, upd (upd xnc A (xnc A + xam i)) B ((upd xnc A (xnc A + xam i)) B - xam i), upd (upd xnh (A * 4 + C) (xnh (A * 4 + C) - xqt i)) (B * 4 + C) ((upd xnh (A * 4 + C) (xnh (A * 4 + C) - xqt i)) (B * 4 + C) + xqt i), rm)) : wpX_addToNets post (nI np, nI ns, nI cp, mr, nI rc, nq, nI cy, ca, ho, st, xse, xbu, xsc, xqt, xam, xat, xsy, xsq, xib, xnc, xnh, rm) (nI i) := by
  have ei : (nI i).toNatClampNeg = i := nI_clamp (by omega)
  have vi : vp_in (nI i) 64 := vp_in_nI hi (by omega)
  have vA : vp_in (nI A) 8 := vp_in_nI hA (by omega)
  have vB : vp_in (nI B) 8 := vp_in_nI hB (by omega)
  unfold wpX_addToNets
  dsimp only
  rw [ei, eA, eB, eC, nI_clamp (n := A) (by omega), nI_clamp (n := B) (by omega)]
  exact ⟨vi, vA, vi, vA, nm_e ⟨vi, vB, vi, vB, nm_e ⟨vi, vi, xm_hix ⟨vp_in_nI (by omega) (by omega), vi, vp_in_nI (by omega) (by omega), nm_r (by rw [nI_clamp (by omega)]) ⟨vi, vi, xm_hix ⟨vp_in_nI (by omega) (by omega), vi, vp_in_nI (by omega) (by omega), nm_r (by rw [nI_clamp (by omega)]) h⟩⟩⟩⟩⟩⟩
theorem xm_nets3 {post : SX → Prop} (n8 : np ≤ 8) (s4 : ns ≤ 4) (c64 : cp ≤ 64) (hV : dv_Val np ns xib xse xbu xsc) (h0 : ∀ p, p < 8 → xnc p = ca p) (h1 : ∀ p s, p < 8 → s < 4 → xnh (p * 4 + s) = ho (p * 4 + s))
    (h : ∀ nc nh, dv_Sp cp ca ho xse xbu xsc xqt xam xib nc nh → post (nI np, nI ns, nI cp, mr, nI rc, nq, nI cy, ca, ho, st, xse, xbu, xsc, xqt, xam, xat, xsy, xsq, xib, nc, nh, rm)) : ∃ n, wX_computeNets_54 post n 0 (nI np) (nI ns) (nI cp) mr (nI rc) nq (nI cy) ca ho st xse xbu xsc xqt xam xat xsy xsq xib xnc xnh rm := by
  refine loop_0 (fun n i (s : (Nat → Int32) × (Nat → Int32)) => wX_computeNets_54 post n (nI i) (nI np) (nI ns) (nI cp) mr (nI rc) nq (nI cy) ca ho st xse xbu xsc xqt xam xat xsy xsq xib s.1 s.2 rm) (fun i s => (∀ p, p < 8 → s.1 p = dv_nc ca xib xse xbu xam p i) ∧ (∀ p t, p < 8 → t < 4 → s.2 (p * 4 + t) = dv_nh ho xib xse xbu xsc xqt p t i)) cp (xnc, xnh) ⟨h0, h1⟩ ?_ ?_
  · intro n s hI
    exact br_t (nI_le (Nat.le_refl _) (by omega)) (h s.1 s.2 hI)
  · intro n i s hi hI ih
    have vi : vp_in (nI i) 64 := vp_in_nI (by omega) (by omega)
    have ei : (nI i).toNatClampNeg = i := nI_clamp (by omega)
    refine br_f (nI_ge hi (by omega)) ⟨vi, br_c (fun z => nm_r (nI_1 i) (ih s ⟨?_, ?_⟩)) (fun z => ?_)⟩
    · rw [ei] at z
      intro p hp
      rw [dv_nc_s, dv_c1_0 z]; exact hI.1 p hp
    · rw [ei] at z
      intro p t hp ht
      rw [dv_nh_s, dv_h1_0 z]; exact hI.2 p t hp ht
    · rw [ei] at z
      obtain ⟨A, B, C, hA, hB, hC, hAB, eA, eB, eC⟩ := hV i z
      refine xm_add (A := A) (B := B) (C := C) (by omega) (by omega) (by omega) (by omega) eA eB eC (nm_r (nI_1 i) (ih (upd (upd s.1 A (s.1 A + xam i)) B ((upd s.1 A (s.1 A + xam i)) B - xam i), upd (upd s.2 (A * 4 + C) (s.2 (A * 4 + C) - xqt i)) (B * 4 + C) ((upd s.2 (A * 4 + C) (s.2 (A * 4 + C) - xqt i)) (B * 4 + C) + xqt i)) ⟨?_, ?_⟩))
      · intro p hp
        rw [dv_nc_s, eA, eB, ← hI.1 p hp]
        exact dv_nc_upd hAB (by omega) (by omega) hp (xam i) z
      · intro p t hp ht
        rw [dv_nh_s, eA, eB, eC, ← hI.2 p t hp ht]
        exact dv_nh_upd hAB (by omega) (by omega) (by omega) hp ht (xqt i) z
theorem xm_nets {post : SX → Prop} (n8 : np ≤ 8) (s4 : ns ≤ 4) (c64 : cp ≤ 64) (hV : dv_Val np ns xib xse xbu xsc)
    (h : ∀ nc nh, dv_Sp cp ca ho xse xbu xsc xqt xam xib nc nh → post (nI np, nI ns, nI cp, mr, nI rc, nq, nI cy, ca, ho, st, xse, xbu, xsc, xqt, xam, xat, xsy, xsq, xib, nc, nh, rm)) : wpX_computeNets post (nI np, nI ns, nI cp, mr, nI rc, nq, nI cy, ca, ho, st, xse, xbu, xsc, xqt, xam, xat, xsy, xsq, xib, xnc, xnh, rm) := by
  refine loop_0 (fun n i (b : Nat → Int32) => wX_computeNets_2 post (nI np) (nI ns) (nI cp) mr (nI rc) nq (nI cy) n (nI i) ca ho st xse xbu xsc xqt xam xat xsy xsq xib b xnh rm) (fun i b => b = dv_cpy ca xnc i) 8 xnc (dv_cpy_0 _ _).symm ?_ ?_
  · intro n b hb
    refine br_t (nI_le (a := 8) (Nat.le_refl _) (by omega)) ?_
    refine loop_0 (fun n i (c : Nat → Int32) => wX_computeNets_28 post (nI np) (nI ns) (nI cp) mr (nI rc) nq (nI cy) n (nI i) ca ho st xse xbu xsc xqt xam xat xsy xsq xib b c rm) (fun i c => c = dv_cpy ho xnh i) 32 xnh (dv_cpy_0 _ _).symm ?_ ?_
    · intro n c hc
      refine br_t (nI_le (a := 32) (Nat.le_refl _) (by omega)) ?_
      refine xm_nets3 n8 s4 c64 hV (fun p hp => by rw [hb]; exact dv_cpy_lt hp) (fun p s hp hs => by rw [hc]; exact dv_cpy_lt (by omega)) h
    · intro n i c hi hc ih
      have vi : vp_in (nI i) 32 := vp_in_nI (by omega) (by omega)
      have ei : (nI i).toNatClampNeg = i := nI_clamp (by omega)
      refine br_f (nI_ge (b := 32) hi (by omega)) ⟨vi, vi, nm_r (e' := dv_cpy ho xnh (i + 1)) ?_ (nm_r (nI_1 i) (ih _ rfl))⟩
      rw [hc, ei, ← dv_cpy_s]
  · intro n i b hi hb ih
    have vi : vp_in (nI i) 8 := vp_in_nI (by omega) (by omega)
    have ei : (nI i).toNatClampNeg = i := nI_clamp (by omega)
    refine br_f (nI_ge (b := 8) hi (by omega)) ⟨vi, vi, nm_r (e' := dv_cpy ca xnc (i + 1)) ?_ (nm_r (nI_1 i) (ih _ rfl))⟩
    rw [hb, ei, ← dv_cpy_s]
end
