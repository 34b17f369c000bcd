section
variable {np ns cp cy rc : Nat} {mr : Int32} {nq : Int64} {ca ho st rm xse xbu xsc xqt xam xat xsy xib xnc xnh yse ybu ysc yqt yam yat ysy yib ync ynh : Nat → Int32} {xsq ysq : Nat → Int64}
theorem dv_Z_ca {j : Nat} {x : Int32} (hj : j < np) (h : dv_Z np ns ca ho) : dv_Z np ns (upd ca j x) ho :=
  ⟨fun p hp => by rw [pk_un (by omega)]; exact h.1 p hp, h.2⟩
theorem dv_Z_ho {j s : Nat} {x : Int32} (hj : j < np) (hs : s < ns) (s4 : ns ≤ 4) (h : dv_Z np ns ca ho) : dv_Z np ns ca (upd ho (j * 4 + s) x) :=
  ⟨h.1, fun p t ht hp => by rw [pk_un (by omega)]; exact h.2 p t ht hp⟩
end
theorem i_vc_fundCash {k : Nat} {u : SX} {v : SY} (I : i_Rel k u v) (hk : k + 5 ≤ 2564) (v1 : Int32) (v2 : Int32) : wpX_fundCash (fun r u' => wpY_fundCash (fun r' v' => r' = r ∧ i_Rel (k + 5) u' v') v v1 v2) u v1 v2 := by
  obtain ⟨np, ns, cp, cy, rc, mr, nq, ca, ho, st, rm, xse, xbu, xsc, xqt, xam, xat, xsy, xib, xnc, xnh, yse, ybu, ysc, yqt, yam, yat, ysy, yib, ync, ynh, xsq, ysq, rfl, rfl, h1, h2, h3, h4, h5, h6, h7⟩ := I
  have R : i_Rel (k + 5) (nI np, nI ns, nI cp, mr, nI rc, nq, nI cy, ca, ho, st, xse, xbu, xsc, xqt, xam, xat, xsy, xsq, xib, xnc, xnh, rm) (nI np, nI ns, nI cp, mr, nI cy, nI rc, nq, ca, ho, yse, ybu, ysc, yqt, yam, st, yat, ysy, ysq, rm, ync, ynh, yib) := dv_rel (dv_Sz_up h1) h2 h3 h4 h5 h6 h7
  have h1' := h1
  obtain ⟨n2, n8, s1, s4, c8, c64, cyk, r64, cy0⟩ := h1
  unfold wpX_fundCash wpY_fundCash
  rcases pk_ix v1 (n := np) (by omega) with h | h | ⟨j, hj, rfl⟩
  · exact xm_part_f (Or.inl h) (br_t rfl (br_t h ⟨rfl, R⟩))
  · exact xm_part_f (Or.inr h) (br_t rfl (br_c (fun _ => ⟨rfl, R⟩) (fun _ => br_f (dv_nlt h) ⟨rfl, R⟩)))
  · have hi : vp_in (nI j) 8 := vp_in_nI (by omega) (by omega)
    have ec : (nI j).toNatClampNeg = j := nI_clamp (by omega)
    have g0 : ¬ nI j < 0 := nI_pos (by omega)
    have g1 : nI j < nI np := nI_lt hj (by omega)
    refine xm_part_t n8 hj (br_f (by decide) ?_)
    by_cases a1 : v2 < 1
    · exact xm_in_f (Or.inl a1) (br_t rfl (br_f g0 (br_t g1 (br_t a1 ⟨rfl, R⟩))))
    · by_cases a2 : 1000000 < v2
      · exact xm_in_f (Or.inr a2) (br_t rfl (br_f g0 (br_t g1 (br_f a1 (br_f (Int32.not_le.mpr a2) ⟨rfl, R⟩)))))
      · refine xm_in_t a1 a2 (br_f (by decide) (xm_totCash n8 ?_))
        by_cases t : dv_sum ca np + v2 ≤ 100000000
        · refine br_t t ⟨hi, hi, nm_r (by rw [ec]) (br_f g0 (br_t g1 (br_f a1 (br_t (Int32.not_lt.mp a2) (ym_totCash n8 (br_t t ⟨hi, hi, nm_r (by rw [ec]) ⟨rfl, ?_⟩⟩))))))⟩
          exact dv_rel (dv_Sz_up h1') (dv_Z_ca hj h2) h3 h4 h5 h6 h7
        · exact br_f t (br_f g0 (br_t g1 (br_f a1 (br_t (Int32.not_lt.mp a2) (ym_totCash n8 (br_f t ⟨rfl, R⟩))))))
theorem i_vc_fundSecurity {k : Nat} {u : SX} {v : SY} (I : i_Rel k u v) (hk : k + 5 ≤ 2564) (v1 : Int32) (v2 : Int32) (v3 : Int32) : wpX_fundSecurity (fun r u' => wpY_fundSecurity (fun r' v' => r' = r ∧ i_Rel (k + 5) u' v') v v1 v2 v3) u v1 v2 v3 := by
  obtain ⟨np, ns, cp, cy, rc, mr, nq, ca, ho, st, rm, xse, xbu, xsc, xqt, xam, xat, xsy, xib, xnc, xnh, yse, ybu, ysc, yqt, yam, yat, ysy, yib, ync, ynh, xsq, ysq, rfl, rfl, h1, h2, h3, h4, h5, h6, h7⟩ := I
  have R : i_Rel (k + 5) (nI np, nI ns, nI cp, mr, nI rc, nq, nI cy, ca, ho, st, xse, xbu, xsc, xqt, xam, xat, xsy, xsq, xib, xnc, xnh, rm) (nI np, nI ns, nI cp, mr, nI cy, nI rc, nq, ca, ho, yse, ybu, ysc, yqt, yam, st, yat, ysy, ysq, rm, ync, ynh, yib) := dv_rel (dv_Sz_up h1) h2 h3 h4 h5 h6 h7
  have h1' := h1
  obtain ⟨n2, n8, s1, s4, c8, c64, cyk, r64, cy0⟩ := h1
  unfold wpX_fundSecurity wpY_fundSecurity
  rcases pk_ix v1 (n := np) (by omega) with h | h | ⟨j, hj, rfl⟩
  · exact xm_part_f (Or.inl h) (br_t rfl (br_t h ⟨rfl, R⟩))
  · exact xm_part_f (Or.inr h) (br_t rfl (br_c (fun _ => ⟨rfl, R⟩) (fun _ => br_f (dv_nlt h) ⟨rfl, R⟩)))
  · have g0 : ¬ nI j < 0 := nI_pos (by omega)
    have g1 : nI j < nI np := nI_lt hj (by omega)
    refine xm_part_t n8 hj (br_f (by decide) ?_)
    rcases pk_ix v2 (n := ns) (by omega) with h | h | ⟨s, hs, rfl⟩
    · exact xm_sec_f (Or.inl h) (br_t rfl (br_f g0 (br_t g1 (br_t h ⟨rfl, R⟩))))
    · exact xm_sec_f (Or.inr h) (br_t rfl (br_f g0 (br_t g1 (br_c (fun _ => ⟨rfl, R⟩) (fun _ => br_f (dv_nlt h) ⟨rfl, R⟩)))))
    · have hi : vp_in (nI j * 4 + nI s) 32 := by rw [dv_hx]; exact vp_in_nI (by omega) (by omega)
      have ec : (nI j * 4 + nI s).toNatClampNeg = j * 4 + s := by rw [dv_hx]; exact nI_clamp (by omega)
      have g2 : ¬ nI s < 0 := nI_pos (by omega)
      have g3 : nI s < nI ns := nI_lt hs (by omega)
      refine xm_sec_t s4 hs (br_f (by decide) ?_)
      by_cases a1 : v3 < 1
      · exact xm_in_f (Or.inl a1) (br_t rfl (br_f g0 (br_t g1 (br_f g2 (br_t g3 (br_t a1 ⟨rfl, R⟩))))))
      · by_cases a2 : 1000000 < v3
        · exact xm_in_f (Or.inr a2) (br_t rfl (br_f g0 (br_t g1 (br_f g2 (br_t g3 (br_f a1 (br_f (Int32.not_le.mpr a2) ⟨rfl, R⟩)))))))
        · refine xm_in_t a1 a2 (br_f (by decide) (xm_totHold n8 s4 hs ?_))
          by_cases t : dv_sum (fun p => ho (p * 4 + s)) np + v3 ≤ 100000000
          · refine br_t t (xm_hix ⟨vp_in_nI (by omega) (by omega), vp_in_nI (by omega) (by omega), nm_r (by rw [nI_clamp (by omega)]) (br_f g0 (br_t g1 (br_f g2 (br_t g3 (br_f a1 (br_t (Int32.not_lt.mp a2) (ym_totHold n8 s4 hs (br_t t ⟨hi, hi, nm_r (by rw [ec]) ⟨rfl, ?_⟩⟩))))))))⟩)
            exact dv_rel (dv_Sz_up h1') (dv_Z_ho hj hs s4 h2) h3 h4 h5 h6 h7
          · exact br_f t (br_f g0 (br_t g1 (br_f g2 (br_t g3 (br_f a1 (br_t (Int32.not_lt.mp a2) (ym_totHold n8 s4 hs (br_f t ⟨rfl, R⟩))))))))
theorem i_vc_cancel {k : Nat} {u : SX} {v : SY} (I : i_Rel k u v) (hk : k + 5 ≤ 2564) (v1 : Int32) : wpX_cancel (fun r u' => wpY_cancel (fun r' v' => r' = r ∧ i_Rel (k + 5) u' v') v v1) u v1 := by
  obtain ⟨np, ns, cp, cy, rc, mr, nq, ca, ho, st, rm, xse, xbu, xsc, xqt, xam, xat, xsy, xib, xnc, xnh, yse, ybu, ysc, yqt, yam, yat, ysy, yib, ync, ynh, xsq, ysq, rfl, rfl, h1, h2, h3, h4, h5, h6, h7⟩ := I
  have R : i_Rel (k + 5) (nI np, nI ns, nI cp, mr, nI rc, nq, nI cy, ca, ho, st, xse, xbu, xsc, xqt, xam, xat, xsy, xsq, xib, xnc, xnh, rm) (nI np, nI ns, nI cp, mr, nI cy, nI rc, nq, ca, ho, yse, ybu, ysc, yqt, yam, st, yat, ysy, ysq, rm, ync, ynh, yib) := dv_rel (dv_Sz_up h1) h2 h3 h4 h5 h6 h7
  have h1' := h1
  obtain ⟨n2, n8, s1, s4, c8, c64, cyk, r64, cy0⟩ := h1
  unfold wpX_cancel wpY_cancel
  rcases pk_ix v1 (n := cp) (by omega) with h | h | ⟨j, hj, rfl⟩
  · exact xm_q_f c64 (Or.inl h) (br_t rfl (br_t h ⟨rfl, R⟩))
  · exact xm_q_f c64 (Or.inr (Or.inl h)) (br_t rfl (br_c (fun _ => ⟨rfl, R⟩) (fun _ => br_t h ⟨rfl, R⟩)))
  · have hi : vp_in (nI j) 64 := vp_in_nI (by omega) (by omega)
    have ec : (nI j).toNatClampNeg = j := nI_clamp (by omega)
    have g0 : ¬ nI j < 0 := nI_pos (by omega)
    have g1 : ¬ nI cp ≤ nI j := nI_ge hj (by omega)
    by_cases z : st j = 1
    · have z0 : st j ≠ 0 := by rw [z]; exact dv_1
      refine xm_q_t c64 hj z (br_f (by decide) ⟨hi, nm_r (by rw [ec]) (br_f g0 (br_f g1 ⟨hi, br_t (by rw [ec]; exact z) ⟨hi, nm_r (by rw [ec]) ⟨rfl, ?_⟩⟩⟩))⟩)
      exact dv_rel (dv_Sz_up h1') h2 h3 h4 (dv_St_upd h5 (Or.inr (Or.inr (Or.inr (Or.inl rfl))))) (dv_Ag_st h6 (dv_st_upd z0)) (dv_Val_st h7 (dv_st_upd z0))
    · exact xm_q_f c64 (Or.inr (Or.inr ⟨j, hj, rfl, z⟩)) (br_t rfl (br_f g0 (br_f g1 ⟨hi, br_f (by rw [ec]; exact z) ⟨rfl, R⟩⟩)))
