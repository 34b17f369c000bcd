section
variable {np ns cp cy rc : Nat} {mr : Int32} {nq : Int64} {ca ho st rm xse xbu xsc xqt xam xat xsy xib xnc xnh yse ybu ysc yqt yam yat ysy yib ync ynh : Nat → Int32} {xsq ysq : Nat → Int64}
theorem xm_totHold {post : Int32 → Prop} {s : Nat} (hn : np ≤ 8) (s4 : ns ≤ 4) (hs : s < ns) (h : post (dv_sum (fun p => ho (p * 4 + s)) np)) : wpX_totalHolding post (nI np, nI ns, nI cp, mr, nI rc, nq, nI cy, ca, ho, st, xse, xbu, xsc, xqt, xam, xat, xsy, xsq, xib, xnc, xnh, rm) (nI s) := by
  unfold wpX_totalHolding
  refine xm_sec_t s4 hs (br_f (by decide) ?_)
  exact loop_0 (fun n i t => wX_totalHolding_14 post (nI s) (nI np) (nI ns) (nI cp) mr (nI rc) nq (nI cy) ca ho st xse xbu xsc xqt xam xat xsy xsq xib xnc xnh rm n t (nI i)) (fun i t => t = dv_sum (fun p => ho (p * 4 + s)) i) np 0 rfl
    (fun n t ht => br_t (nI_le (Nat.le_refl _) (by omega)) (by rw [ht]; exact h))
    (fun n i t hi ht ih => br_f (nI_ge hi (by omega)) (xm_hix ⟨vp_in_nI (by omega) (by omega), nm_r (by rw [nI_clamp (by omega), ht]; rfl) (nm_r (nI_1 i) (ih (dv_sum (fun p => ho (p * 4 + s)) (i + 1)) rfl))⟩))
theorem ym_totHold {post : Int32 → Prop} {s : Nat} (hn : np ≤ 8) (s4 : ns ≤ 4) (hs : s < ns) (h : post (dv_sum (fun p => ho (p * 4 + s)) np)) : wpY_totalHolding post (nI np, nI ns, nI cp, mr, nI cy, nI rc, nq, ca, ho, yse, ybu, ysc, yqt, yam, st, yat, ysy, ysq, rm, ync, ynh, yib) (nI s) := by
  unfold wpY_totalHolding
  refine br_f (nI_pos (by omega)) (br_t (nI_lt hs (by omega)) ?_)
  exact loop_0 (fun n i t => wY_totalHolding_18 post (nI s) (nI np) (nI ns) (nI cp) mr (nI cy) (nI rc) nq ca ho yse ybu ysc yqt yam st yat ysy ysq rm ync ynh yib n t (nI i)) (fun i t => t = dv_sum (fun p => ho (p * 4 + s)) i) np 0 rfl
    (fun n t ht => br_t (nI_le (Nat.le_refl _) (by omega)) (by rw [ht]; exact h))
    (fun n i t hi ht ih => br_f (nI_ge hi (by omega)) ⟨by rw [dv_hx]; exact vp_in_nI (by omega) (by omega), nm_r (by rw [dv_hx, nI_clamp (by omega), ht]; rfl) (nm_r (nI_1 i) (ih (dv_sum (fun p => ho (p * 4 + s)) (i + 1)) rfl))⟩)
end
theorem i_vc_holding {k : Nat} {u : SX} {v : SY} (I : i_Rel k u v) (hk : k + 5 ≤ 2564) (v1 : Int32) (v2 : Int32) : wpX_holding (fun r => wpY_holding (fun r' => r' = r ∧ i_Rel (k + 5) u v) v v1 v2) u v1 v2 := by
  obtain ⟨np, ns, cp, cy, rc, mr, nq, ca, ho, st, rm, xse, xbu, xsc, xqt, xam, xat, xsy, xib, xnc, xnh, yse, ybu, ysc, yqt, yam, yat, ysy, yib, ync, ynh, xsq, ysq, rfl, rfl, h1, h2, h3, h4, h5, h6, h7⟩ := I
  have R : i_Rel (k + 5) (nI np, nI ns, nI cp, mr, nI rc, nq, nI cy, ca, ho, st, xse, xbu, xsc, xqt, xam, xat, xsy, xsq, xib, xnc, xnh, rm) (nI np, nI ns, nI cp, mr, nI cy, nI rc, nq, ca, ho, yse, ybu, ysc, yqt, yam, st, yat, ysy, ysq, rm, ync, ynh, yib) := dv_rel (dv_Sz_up h1) h2 h3 h4 h5 h6 h7
  have h1' := h1
  obtain ⟨n2, n8, s1, s4, c8, c64, cyk, r64, cy0⟩ := h1
  unfold wpX_holding wpY_holding
  rcases pk_ix v1 (n := np) (by omega) with h | h | ⟨j, hj, rfl⟩
  · exact xm_part_f (Or.inl h) (br_t rfl (br_t h ⟨rfl, R⟩))
  · exact xm_part_f (Or.inr h) (br_t rfl (br_c (fun _ => ⟨rfl, R⟩) (fun _ => br_t h ⟨rfl, R⟩)))
  · refine xm_part_t n8 hj (br_f (by decide) ?_)
    rcases pk_ix v2 (n := ns) (by omega) with h | h | ⟨s, hs, rfl⟩
    · exact xm_sec_f (Or.inl h) (br_t rfl (br_f (nI_pos (by omega)) (br_f (nI_ge hj (by omega)) (br_t h ⟨rfl, R⟩))))
    · exact xm_sec_f (Or.inr h) (br_t rfl (br_f (nI_pos (by omega)) (br_f (nI_ge hj (by omega)) (br_c (fun _ => ⟨rfl, R⟩) (fun _ => br_f (dv_nlt h) ⟨rfl, R⟩)))))
    · have hi : vp_in (nI j * 4 + nI s) 32 := by rw [dv_hx]; exact vp_in_nI (by omega) (by omega)
      refine xm_sec_t s4 hs (br_f (by decide) (xm_hix ?_))
      rw [dv_hx] at hi
      rw [dv_hx]
      exact ⟨hi, br_f (nI_pos (by omega)) (br_f (nI_ge hj (by omega)) (br_f (nI_pos (by omega)) (br_t (nI_lt hs (by omega)) ⟨hi, rfl, R⟩)))⟩
theorem i_vc_totalCash {k : Nat} {u : SX} {v : SY} (I : i_Rel k u v) (hk : k + 5 ≤ 2564) : wpX_totalCash (fun r => wpY_totalCash (fun r' => r' = r ∧ i_Rel (k + 5) u v) v) u := by
  obtain ⟨np, ns, cp, cy, rc, mr, nq, ca, ho, st, rm, xse, xbu, xsc, xqt, xam, xat, xsy, xib, xnc, xnh, yse, ybu, ysc, yqt, yam, yat, ysy, yib, ync, ynh, xsq, ysq, rfl, rfl, h1, h2, h3, h4, h5, h6, h7⟩ := I
  have R : i_Rel (k + 5) (nI np, nI ns, nI cp, mr, nI rc, nq, nI cy, ca, ho, st, xse, xbu, xsc, xqt, xam, xat, xsy, xsq, xib, xnc, xnh, rm) (nI np, nI ns, nI cp, mr, nI cy, nI rc, nq, ca, ho, yse, ybu, ysc, yqt, yam, st, yat, ysy, ysq, rm, ync, ynh, yib) := dv_rel (dv_Sz_up h1) h2 h3 h4 h5 h6 h7
  have h1' := h1
  obtain ⟨n2, n8, s1, s4, c8, c64, cyk, r64, cy0⟩ := h1
  exact xm_totCash n8 (ym_totCash n8 ⟨rfl, R⟩)
theorem i_vc_totalHolding {k : Nat} {u : SX} {v : SY} (I : i_Rel k u v) (hk : k + 5 ≤ 2564) (v1 : Int32) : wpX_totalHolding (fun r => wpY_totalHolding (fun r' => r' = r ∧ i_Rel (k + 5) u v) v v1) u v1 := by
  obtain ⟨np, ns, cp, cy, rc, mr, nq, ca, ho, st, rm, xse, xbu, xsc, xqt, xam, xat, xsy, xib, xnc, xnh, yse, ybu, ysc, yqt, yam, yat, ysy, yib, ync, ynh, xsq, ysq, rfl, rfl, h1, h2, h3, h4, h5, h6, h7⟩ := I
  have R : i_Rel (k + 5) (nI np, nI ns, nI cp, mr, nI rc, nq, nI cy, ca, ho, st, xse, xbu, xsc, xqt, xam, xat, xsy, xsq, xib, xnc, xnh, rm) (nI np, nI ns, nI cp, mr, nI cy, nI rc, nq, ca, ho, yse, ybu, ysc, yqt, yam, st, yat, ysy, ysq, rm, ync, ynh, yib) := dv_rel (dv_Sz_up h1) h2 h3 h4 h5 h6 h7
  have h1' := h1
  obtain ⟨n2, n8, s1, s4, c8, c64, cyk, r64, cy0⟩ := h1
  rcases pk_ix v1 (n := ns) (by omega) with h | h | ⟨s, hs, rfl⟩
  · unfold wpX_totalHolding wpY_totalHolding
    exact xm_sec_f (Or.inl h) (br_t rfl (br_t h ⟨rfl, R⟩))
  · unfold wpX_totalHolding wpY_totalHolding
    exact xm_sec_f (Or.inr h) (br_t rfl (br_c (fun _ => ⟨rfl, R⟩) (fun _ => br_f (dv_nlt h) ⟨rfl, R⟩)))
  · exact xm_totHold n8 s4 hs (ym_totHold n8 s4 hs ⟨rfl, R⟩)
theorem i_vc_status {k : Nat} {u : SX} {v : SY} (I : i_Rel k u v) (hk : k + 5 ≤ 2564) (v1 : Int32) : wpX_status (fun r => wpY_status (fun r' => r' = r ∧ i_Rel (k + 5) u v) v v1) u v1 := by
  obtain ⟨np, ns, cp, cy, rc, mr, nq, ca, ho, st, rm, xse, xbu, xsc, xqt, xam, xat, xsy, xib, xnc, xnh, yse, ybu, ysc, yqt, yam, yat, ysy, yib, ync, ynh, xsq, ysq, rfl, rfl, h1, h2, h3, h4, h5, h6, h7⟩ := I
  have R : i_Rel (k + 5) (nI np, nI ns, nI cp, mr, nI rc, nq, nI cy, ca, ho, st, xse, xbu, xsc, xqt, xam, xat, xsy, xsq, xib, xnc, xnh, rm) (nI np, nI ns, nI cp, mr, nI cy, nI rc, nq, ca, ho, yse, ybu, ysc, yqt, yam, st, yat, ysy, ysq, rm, ync, ynh, yib) := dv_rel (dv_Sz_up h1) h2 h3 h4 h5 h6 h7
  have h1' := h1
  obtain ⟨n2, n8, s1, s4, c8, c64, cyk, r64, cy0⟩ := h1
  unfold wpX_status wpY_status
  rcases pk_ix v1 (n := cp) (by omega) with h | h | ⟨j, hj, rfl⟩
  · exact xm_slot_f (Or.inl h) (br_t rfl (br_t h ⟨rfl, R⟩))
  · exact xm_slot_f (Or.inr h) (br_t rfl (br_c (fun _ => ⟨rfl, R⟩) (fun _ => br_f (dv_nlt h) ⟨rfl, R⟩)))
  · have hi : vp_in (nI j) 64 := vp_in_nI (by omega) (by omega)
    exact xm_slot_t c64 hj (br_f (by decide) ⟨hi, br_f (nI_pos (by omega)) (br_t (nI_lt hj (by omega)) ⟨hi, rfl, R⟩)⟩)
theorem i_vc_attempts {k : Nat} {u : SX} {v : SY} (I : i_Rel k u v) (hk : k + 5 ≤ 2564) (v1 : Int32) : wpX_attempts (fun r => wpY_attempts (fun r' => r' = r ∧ i_Rel (k + 5) u v) v v1) u v1 := by
  obtain ⟨np, ns, cp, cy, rc, mr, nq, ca, ho, st, rm, xse, xbu, xsc, xqt, xam, xat, xsy, xib, xnc, xnh, yse, ybu, ysc, yqt, yam, yat, ysy, yib, ync, ynh, xsq, ysq, rfl, rfl, h1, h2, h3, h4, h5, h6, h7⟩ := I
  have R : i_Rel (k + 5) (nI np, nI ns, nI cp, mr, nI rc, nq, nI cy, ca, ho, st, xse, xbu, xsc, xqt, xam, xat, xsy, xsq, xib, xnc, xnh, rm) (nI np, nI ns, nI cp, mr, nI cy, nI rc, nq, ca, ho, yse, ybu, ysc, yqt, yam, st, yat, ysy, ysq, rm, ync, ynh, yib) := dv_rel (dv_Sz_up h1) h2 h3 h4 h5 h6 h7
  have h1' := h1
  obtain ⟨n2, n8, s1, s4, c8, c64, cyk, r64, cy0⟩ := h1
  unfold wpX_attempts wpY_attempts
  rcases pk_ix v1 (n := cp) (by omega) with h | h | ⟨j, hj, rfl⟩
  · exact xm_slot_f (Or.inl h) (br_t rfl (br_t h ⟨rfl, R⟩))
  · exact xm_slot_f (Or.inr h) (br_t rfl (br_c (fun _ => ⟨rfl, R⟩) (fun _ => br_t h ⟨rfl, R⟩)))
  · have hi : vp_in (nI j) 64 := vp_in_nI (by omega) (by omega)
    have ec : (nI j).toNatClampNeg = j := nI_clamp (by omega)
    refine xm_slot_t c64 hj (br_f (by decide) ⟨hi, ?_⟩)
    rw [ec]
    by_cases z : st j = 0
    · exact br_t z (br_f (nI_pos (by omega)) (br_f (nI_ge hj (by omega)) ⟨hi, br_t z ⟨rfl, R⟩⟩))
    · exact br_f z ⟨hi, br_f (nI_pos (by omega)) (br_f (nI_ge hj (by omega)) ⟨hi, br_f z ⟨hi, (h6 j z).2.2.2.2.2.1.symm, R⟩⟩)⟩
theorem i_vc_settledCycle {k : Nat} {u : SX} {v : SY} (I : i_Rel k u v) (hk : k + 5 ≤ 2564) (v1 : Int32) : wpX_settledCycle (fun r => wpY_settledCycle (fun r' => r' = r ∧ i_Rel (k + 5) u v) v v1) u v1 := by
  obtain ⟨np, ns, cp, cy, rc, mr, nq, ca, ho, st, rm, xse, xbu, xsc, xqt, xam, xat, xsy, xib, xnc, xnh, yse, ybu, ysc, yqt, yam, yat, ysy, yib, ync, ynh, xsq, ysq, rfl, rfl, h1, h2, h3, h4, h5, h6, h7⟩ := I
  have R : i_Rel (k + 5) (nI np, nI ns, nI cp, mr, nI rc, nq, nI cy, ca, ho, st, xse, xbu, xsc, xqt, xam, xat, xsy, xsq, xib, xnc, xnh, rm) (nI np, nI ns, nI cp, mr, nI cy, nI rc, nq, ca, ho, yse, ybu, ysc, yqt, yam, st, yat, ysy, ysq, rm, ync, ynh, yib) := dv_rel (dv_Sz_up h1) h2 h3 h4 h5 h6 h7
  have h1' := h1
  obtain ⟨n2, n8, s1, s4, c8, c64, cyk, r64, cy0⟩ := h1
  unfold wpX_settledCycle wpY_settledCycle
  rcases pk_ix v1 (n := cp) (by omega) with h | h | ⟨j, hj, rfl⟩
  · exact xm_slot_f (Or.inl h) (br_t rfl (br_t h ⟨rfl, R⟩))
  · exact xm_slot_f (Or.inr h) (br_t rfl (br_c (fun _ => ⟨rfl, R⟩) (fun _ => br_t h ⟨rfl, R⟩)))
  · have hi : vp_in (nI j) 64 := vp_in_nI (by omega) (by omega)
    have ec : (nI j).toNatClampNeg = j := nI_clamp (by omega)
    refine xm_slot_t c64 hj (br_f (by decide) ⟨hi, ?_⟩)
    rw [ec]
    by_cases z : st j = 2
    · have z0 : st j ≠ 0 := by rw [z]; decide
      exact br_t z ⟨hi, br_f (nI_pos (by omega)) (br_f (nI_ge hj (by omega)) ⟨hi, br_t z ⟨hi, (h6 j z0).2.2.2.2.2.2.1.symm, R⟩⟩)⟩
    · exact br_f z (br_f (nI_pos (by omega)) (br_f (nI_ge hj (by omega)) ⟨hi, br_f z ⟨rfl, R⟩⟩))
theorem i_vc_removedAt {k : Nat} {u : SX} {v : SY} (I : i_Rel k u v) (hk : k + 5 ≤ 2564) (v1 : Int32) : wpX_removedAt (fun r => wpY_removedAt (fun r' => r' = r ∧ i_Rel (k + 5) u v) v v1) u v1 := by
  obtain ⟨np, ns, cp, cy, rc, mr, nq, ca, ho, st, rm, xse, xbu, xsc, xqt, xam, xat, xsy, xib, xnc, xnh, yse, ybu, ysc, yqt, yam, yat, ysy, yib, ync, ynh, xsq, ysq, rfl, rfl, h1, h2, h3, h4, h5, h6, h7⟩ := I
  have R : i_Rel (k + 5) (nI np, nI ns, nI cp, mr, nI rc, nq, nI cy, ca, ho, st, xse, xbu, xsc, xqt, xam, xat, xsy, xsq, xib, xnc, xnh, rm) (nI np, nI ns, nI cp, mr, nI cy, nI rc, nq, ca, ho, yse, ybu, ysc, yqt, yam, st, yat, ysy, ysq, rm, ync, ynh, yib) := dv_rel (dv_Sz_up h1) h2 h3 h4 h5 h6 h7
  have h1' := h1
  obtain ⟨n2, n8, s1, s4, c8, c64, cyk, r64, cy0⟩ := h1
  unfold wpX_removedAt wpY_removedAt
  have c0 : nI cy = 0 → rc = 0 := by
    intro e
    exact cy0 ((nI_eq (b := 0) (by omega) (by omega)).mp (e.trans nI_0.symm))
  rcases pk_ix v1 (n := rc) (by omega) with h | h | ⟨j, hj, rfl⟩
  · exact br_t h (br_c (fun _ => ⟨rfl, R⟩) (fun _ => br_t h ⟨rfl, R⟩))
  · have hp : (-1 : Int32) = -1 ∧ i_Rel (k + 5) (nI np, nI ns, nI cp, mr, nI rc, nq, nI cy, ca, ho, st, xse, xbu, xsc, xqt, xam, xat, xsy, xsq, xib, xnc, xnh, rm) (nI np, nI ns, nI cp, mr, nI cy, nI rc, nq, ca, ho, yse, ybu, ysc, yqt, yam, st, yat, ysy, ysq, rm, ync, ynh, yib) := ⟨rfl, R⟩
    exact br_c (fun z => br_c (fun _ => hp) (fun _ => br_t z hp)) (fun z => br_t h (br_c (fun _ => hp) (fun _ => br_f z (br_f (dv_nlt h) hp))))
  · have hi : vp_in (nI j) 64 := vp_in_nI (by omega) (by omega)
    have cz : ¬ nI cy = 0 := fun e => by have := c0 e; omega
    exact br_f (nI_pos (by omega)) (br_f (nI_ge hj (by omega)) ⟨hi, br_f cz (br_f (nI_pos (by omega)) (br_t (nI_lt hj (by omega)) ⟨hi, rfl, R⟩))⟩)
theorem i_vc_cycleCount {k : Nat} {u : SX} {v : SY} (I : i_Rel k u v) (hk : k + 5 ≤ 2564) : wpX_cycleCount (fun r => wpY_cycleCount (fun r' => r' = r ∧ i_Rel (k + 5) u v) v) u := by
  obtain ⟨np, ns, cp, cy, rc, mr, nq, ca, ho, st, rm, xse, xbu, xsc, xqt, xam, xat, xsy, xib, xnc, xnh, yse, ybu, ysc, yqt, yam, yat, ysy, yib, ync, ynh, xsq, ysq, rfl, rfl, h1, h2, h3, h4, h5, h6, h7⟩ := I
  have R : i_Rel (k + 5) (nI np, nI ns, nI cp, mr, nI rc, nq, nI cy, ca, ho, st, xse, xbu, xsc, xqt, xam, xat, xsy, xsq, xib, xnc, xnh, rm) (nI np, nI ns, nI cp, mr, nI cy, nI rc, nq, ca, ho, yse, ybu, ysc, yqt, yam, st, yat, ysy, ysq, rm, ync, ynh, yib) := dv_rel (dv_Sz_up h1) h2 h3 h4 h5 h6 h7
  have h1' := h1
  obtain ⟨n2, n8, s1, s4, c8, c64, cyk, r64, cy0⟩ := h1
  exact ⟨rfl, R⟩
