section
variable {np ns cp cy rc : Nat} {mr : Int32} {nq : Int64} {ca ho st rm xse xbu xsc xqt xam xat xsy xib xnc xnh yse ybu ysc yqt yam yat ysy yib ync ynh : Nat → Int32} {xsq ysq : Nat → Int64}
theorem dv_Z_move {A B C : Nat} {m q : Int32} (hA : A < np) (hB : B < np) (hC : C < ns) (s4 : ns ≤ 4) (h : dv_Z np ns ca ho) :
    dv_Z np ns (upd (upd ca B (ca B - m)) A ((upd ca B (ca B - m)) A + m)) (upd (upd ho (A * 4 + C) (ho (A * 4 + C) - q)) (B * 4 + C) ((upd ho (A * 4 + C) (ho (A * 4 + C) - q)) (B * 4 + C) + q)) :=
  dv_Z_ca hA (dv_Z_ca hB (dv_Z_ho hB hC s4 (dv_Z_ho hA hC s4 h)))
theorem xm_settle {post : Int32 → SX → Prop} {j A B C : Nat} (c64 : cp ≤ 64) (hj : j < cp) (z : st j = 1) (hA : A < 8) (hB : B < 8) (hC : C < 4) (eA : xse j = nI A) (eB : xbu j = nI B) (eC : xsc j = nI C)
    (h0 : (ho (A * 4 + C) < xqt j ∨ ¬ xam j ≤ ca B) → post 0 (nI np, nI ns, nI cp, mr, nI rc, nq, nI cy, ca, ho, st, xse, xbu, xsc, xqt, xam, xat, xsy, xsq, xib, xnc, xnh, rm))
    (h1 : ¬ ho (A * 4 + C) < xqt j → xam j ≤ ca B → post 1 (nI np, nI ns, nI cp, mr, nI rc, nq, nI cy, upd (upd ca B (ca B - xam j)) A ((upd ca B (ca B - xam j)) A + xam j), upd (upd ho (A * 4 + C) (ho (A * 4 + C) - xqt j)) (B * 4 + C) ((upd ho (A * 4 + C) (ho (A * 4 + C) - xqt j)) (B * 4 + C) + xqt j), upd st j 2, xse, xbu, xsc, xqt, xam, xat, upd xsy j 0, xsq, xib, xnc, xnh, rm)) : wpX_settleNow post (nI np, nI ns, nI cp, mr, nI rc, nq, nI cy, ca, ho, st, xse, xbu, xsc, xqt, xam, xat, xsy, xsq, xib, xnc, xnh, rm) (nI j) := by
  have vj : vp_in (nI j) 64 := vp_in_nI (by omega) (by omega)
  have ec : (nI j).toNatClampNeg = j := nI_clamp (by omega)
  have vA : vp_in (nI A) 8 := vp_in_nI (by omega) (by omega)
  have vB : vp_in (nI B) 8 := vp_in_nI (by omega) (by omega)
  have vAC : vp_in (nI (A * 4 + C)) 32 := vp_in_nI (by omega) (by omega)
  have vBC : vp_in (nI (B * 4 + C)) 32 := vp_in_nI (by omega) (by omega)
  have cA : (nI A).toNatClampNeg = A := nI_clamp (by omega)
  have cB : (nI B).toNatClampNeg = B := nI_clamp (by omega)
  have cAC : (nI (A * 4 + C)).toNatClampNeg = A * 4 + C := nI_clamp (by omega)
  have cBC : (nI (B * 4 + C)).toNatClampNeg = B * 4 + C := nI_clamp (by omega)
  unfold wpX_settleNow
  refine xm_q_t c64 hj z (br_f (by decide) ?_)
  rw [ec, eA, eB, eC]
  refine ⟨vj, nm_e ⟨vj, nm_e ⟨vj, xm_hix ⟨vj, xm_hix ?_⟩⟩⟩⟩
  rw [cAC, cBC, cA, cB]
  exact ⟨vAC, vj, br_c (fun q => h0 (Or.inl q)) (fun q => ⟨vB, vj, br_c (fun m => ⟨vAC, vj, vAC, nm_e ⟨vBC, vj, vBC, nm_e ⟨vB, vj, vB, nm_e ⟨vA, vj, vA, nm_e ⟨vj, nm_e ⟨vj, nm_e (h1 q m)⟩⟩⟩⟩⟩⟩) (fun m => h0 (Or.inr m))⟩)⟩
theorem ym_settle {post : Int32 → SY → Prop} {j A B C : Nat} (c64 : cp ≤ 64) (hj : j < cp) (z : st j = 1) (hA : A < 8) (hB : B < 8) (hC : C < 4) (eA : yse j = nI A) (eB : ybu j = nI B) (eC : ysc j = nI C)
    (h0 : (ho (A * 4 + C) < yqt j ∨ ¬ yam j ≤ ca B) → post 0 (nI np, nI ns, nI cp, mr, nI cy, nI rc, nq, ca, ho, yse, ybu, ysc, yqt, yam, st, yat, ysy, ysq, rm, ync, ynh, yib))
    (h1 : ¬ ho (A * 4 + C) < yqt j → yam j ≤ ca B → post 1 (nI np, nI ns, nI cp, mr, nI cy, nI rc, nq, upd (upd ca B (ca B - yam j)) A ((upd ca B (ca B - yam j)) A + yam j), upd (upd ho (A * 4 + C) (ho (A * 4 + C) - yqt j)) (B * 4 + C) ((upd ho (A * 4 + C) (ho (A * 4 + C) - yqt j)) (B * 4 + C) + yqt j), yse, ybu, ysc, yqt, yam, upd st j 2, yat, upd ysy j 0, ysq, rm, ync, ynh, yib)) : wpY_settleNow post (nI np, nI ns, nI cp, mr, nI cy, nI rc, nq, ca, ho, yse, ybu, ysc, yqt, yam, st, yat, ysy, ysq, rm, ync, ynh, yib) (nI j) := by
  have vj : vp_in (nI j) 64 := vp_in_nI (by omega) (by omega)
  have ec : (nI j).toNatClampNeg = j := nI_clamp (by omega)
  have vA : vp_in (nI A) 8 := vp_in_nI (by omega) (by omega)
  have vB : vp_in (nI B) 8 := vp_in_nI (by omega) (by omega)
  have vAC : vp_in (nI (A * 4 + C)) 32 := vp_in_nI (by omega) (by omega)
  have vBC : vp_in (nI (B * 4 + C)) 32 := vp_in_nI (by omega) (by omega)
  have cA : (nI A).toNatClampNeg = A := nI_clamp (by omega)
  have cB : (nI B).toNatClampNeg = B := nI_clamp (by omega)
  have cAC : (nI (A * 4 + C)).toNatClampNeg = A * 4 + C := nI_clamp (by omega)
  have cBC : (nI (B * 4 + C)).toNatClampNeg = B * 4 + C := nI_clamp (by omega)
  unfold wpY_settleNow
  refine br_f (nI_pos (by omega)) (br_f (nI_ge hj (by omega)) ⟨vj, br_t (by rw [ec]; exact z) ?_⟩)
  rw [ec, eA, eB, eC]
  refine ⟨vj, nm_e ⟨vj, nm_e ⟨vj, nm_e ?_⟩⟩⟩
  rw [dv_hx, dv_hx, cAC, cBC, cA, cB]
  exact ⟨vAC, vj, br_c (fun q => ⟨vB, vj, br_c (fun m => ⟨vAC, vj, vAC, nm_e ⟨vBC, vj, vBC, nm_e ⟨vB, vj, vB, nm_e ⟨vA, vj, vA, nm_e ⟨vj, nm_e ⟨vj, nm_e (h1 (Int32.not_lt.mpr q) m)⟩⟩⟩⟩⟩⟩) (fun m => h0 (Or.inr m))⟩) (fun q => h0 (Or.inl (Int32.not_le.mp q)))⟩
end
theorem i_vc_settleNow {k : Nat} {u : SX} {v : SY} (I : i_Rel k u v) (hk : k + 5 ≤ 2564) (v1 : Int32) : wpX_settleNow (fun r u' => wpY_settleNow (fun r' v' => r' = r ∧ i_Rel (k + 5) u' v') v v1) u v1 := by
  obtain ⟨np, ns, cp, cy, rc, mr, nq, ca, ho, st, rm, xse, xbu, xsc, xqt, xam, xat, xsy, xib, xnc, xnh, yse, ybu, ysc, yqt, yam, yat, ysy, yib, ync, ynh, xsq, ysq, rfl, rfl, h1, h2, h3, h4, h5, h6, h7⟩ := I
  have R : i_Rel (k + 5) (nI np, nI ns, nI cp, mr, nI rc, nq, nI cy, ca, ho, st, xse, xbu, xsc, xqt, xam, xat, xsy, xsq, xib, xnc, xnh, rm) (nI np, nI ns, nI cp, mr, nI cy, nI rc, nq, ca, ho, yse, ybu, ysc, yqt, yam, st, yat, ysy, ysq, rm, ync, ynh, yib) := dv_rel (dv_Sz_up h1) h2 h3 h4 h5 h6 h7
  have h1' := h1
  obtain ⟨n2, n8, s1, s4, c8, c64, cyk, r64, cy0⟩ := h1
  rcases pk_ix v1 (n := cp) (by omega) with h | h | ⟨j, hj, rfl⟩
  · unfold wpX_settleNow wpY_settleNow
    exact xm_q_f c64 (Or.inl h) (br_t rfl (br_t h ⟨rfl, R⟩))
  · unfold wpX_settleNow wpY_settleNow
    exact xm_q_f c64 (Or.inr (Or.inl h)) (br_t rfl (br_c (fun _ => ⟨rfl, R⟩) (fun _ => br_t h ⟨rfl, R⟩)))
  · by_cases z : st j = 1
    · have z0 : st j ≠ 0 := by rw [z]; exact dv_1
      obtain ⟨A, B, C, hA, hB, hC, hAB, eA, eB, eC⟩ := h7 j z0
      obtain ⟨f1, f2, f3, f4, f5, f6, f7, f8⟩ := h6 j z0
      have yA : yse j = nI A := f1.symm.trans eA
      have yB : ybu j = nI B := f2.symm.trans eB
      have yC : ysc j = nI C := f3.symm.trans eC
      refine xm_settle c64 hj z (by omega) (by omega) (by omega) eA eB eC (fun q => ?_) (fun q m => ?_)
      · refine ym_settle c64 hj z (by omega) (by omega) (by omega) yA yB yC (fun _ => ⟨rfl, R⟩) (fun q' m' => ?_)
        rw [← f4] at q'
        rw [← f5] at m'
        rcases q with q | q
        · exact absurd q q'
        · exact absurd m' q
      · refine ym_settle c64 hj z (by omega) (by omega) (by omega) yA yB yC (fun q' => ?_) (fun _ _ => ⟨rfl, ?_⟩)
        · rw [← f4, ← f5] at q'
          rcases q' with q' | q'
          · exact absurd q' q
          · exact absurd m q'
        · rw [← f4, ← f5]
          refine dv_rel (dv_Sz_up h1') (dv_Z_move hA hB hC s4 h2) h3 h4 (dv_St_upd h5 (Or.inr (Or.inr (Or.inl rfl)))) ?_ (dv_Val_st h7 (dv_st_upd z0))
          intro i hi
          obtain ⟨e1, e2, e3, e4, e5, e6, e7, e8⟩ := h6 i (dv_st_upd z0 i hi)
          refine ⟨e1, e2, e3, e4, e5, e6, ?_, e8⟩
          by_cases e : i = j
          · rw [e, pk_us, pk_us]
          · rw [pk_un e, pk_un e]; exact e7
    · have vj : vp_in (nI j) 64 := vp_in_nI (by omega) (by omega)
      have ec : (nI j).toNatClampNeg = j := nI_clamp (by omega)
      unfold wpX_settleNow wpY_settleNow
      exact xm_q_f c64 (Or.inr (Or.inr ⟨j, hj, rfl, z⟩)) (br_t rfl (br_f (nI_pos (by omega)) (br_f (nI_ge hj (by omega)) ⟨vj, br_f (by rw [ec]; exact z) ⟨rfl, R⟩⟩)))
