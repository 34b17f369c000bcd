section
variable {np ns cp cy rc : Nat} {mr : Int32} {nq : Int64} {ca ho st rm xse xbu xsc xqt xam xat xsy xib xnc xnh yse ybu ysc yqt yam yat ysy yib ync ynh : Nat → Int32} {xsq ysq : Nat → Int64}
theorem xm_part_t {post : Int32 → Prop} {j : Nat} (hn : np ≤ 8) (hj : j < np) (h : post 1) : wpX_isParticipant post (nI np, nI ns, nI cp, mr, nI rc, nq, nI cy, ca, ho, st, xse, xbu, xsc, xqt, xam, xat, xsy, xsq, xib, xnc, xnh, rm) (nI j) := br_f (nI_pos (by omega)) (br_f (nI_ge hj (by omega)) h)
theorem xm_part_f {post : Int32 → Prop} {p : Int32} (hp : p < 0 ∨ nI np ≤ p) (h : post 0) : wpX_isParticipant post (nI np, nI ns, nI cp, mr, nI rc, nq, nI cy, ca, ho, st, xse, xbu, xsc, xqt, xam, xat, xsy, xsq, xib, xnc, xnh, rm) p := br_c (fun _ => h) (fun z => br_t (hp.resolve_left z) h)
theorem xm_sec_t {post : Int32 → Prop} {j : Nat} (hn : ns ≤ 4) (hj : j < ns) (h : post 1) : wpX_isSecurity post (nI np, nI ns, nI cp, mr, nI rc, nq, nI cy, ca, ho, st, xse, xbu, xsc, xqt, xam, xat, xsy, xsq, xib, xnc, xnh, rm) (nI j) := br_f (nI_pos (by omega)) (br_f (nI_ge hj (by omega)) h)
theorem xm_sec_f {post : Int32 → Prop} {p : Int32} (hp : p < 0 ∨ nI ns ≤ p) (h : post 0) : wpX_isSecurity post (nI np, nI ns, nI cp, mr, nI rc, nq, nI cy, ca, ho, st, xse, xbu, xsc, xqt, xam, xat, xsy, xsq, xib, xnc, xnh, rm) p := br_c (fun _ => h) (fun z => br_t (hp.resolve_left z) h)
theorem xm_slot_t {post : Int32 → Prop} {j : Nat} (hn : cp ≤ 64) (hj : j < cp) (h : post 1) : wpX_isSlot post (nI np, nI ns, nI cp, mr, nI rc, nq, nI cy, ca, ho, st, xse, xbu, xsc, xqt, xam, xat, xsy, xsq, xib, xnc, xnh, rm) (nI j) := br_f (nI_pos (by omega)) (br_f (nI_ge hj (by omega)) h)
theorem xm_slot_f {post : Int32 → Prop} {p : Int32} (hp : p < 0 ∨ nI cp ≤ p) (h : post 0) : wpX_isSlot post (nI np, nI ns, nI cp, mr, nI rc, nq, nI cy, ca, ho, st, xse, xbu, xsc, xqt, xam, xat, xsy, xsq, xib, xnc, xnh, rm) p := br_c (fun _ => h) (fun z => br_t (hp.resolve_left z) h)
theorem xm_in_t {post : Int32 → Prop} {x a b : Int32} (h1 : ¬ x < a) (h2 : ¬ b < x) (h : post 1) : wpX_isWithin post x a b := br_f h1 (br_f h2 h)
theorem xm_in_f {post : Int32 → Prop} {x a b : Int32} (hx : x < a ∨ b < x) (h : post 0) : wpX_isWithin post x a b := br_c (fun _ => h) (fun z => br_t (hx.resolve_left z) h)
theorem xm_q_t {post : Int32 → Prop} {j : Nat} (hn : cp ≤ 64) (hj : j < cp) (hs : st j = 1) (h : post 1) : wpX_isQueued post (nI np, nI ns, nI cp, mr, nI rc, nq, nI cy, ca, ho, st, xse, xbu, xsc, xqt, xam, xat, xsy, xsq, xib, xnc, xnh, rm) (nI j) := by
  unfold wpX_isQueued
  exact xm_slot_t hn hj (br_f (by decide) ⟨vp_in_nI (by omega) (by omega), br_t (by rw [nI_clamp (by omega)]; exact hs) h⟩)
theorem xm_q_f {post : Int32 → Prop} {p : Int32} (hn : cp ≤ 64) (hp : p < 0 ∨ nI cp ≤ p ∨ ∃ j, j < cp ∧ p = nI j ∧ st j ≠ 1) (h : post 0) : wpX_isQueued post (nI np, nI ns, nI cp, mr, nI rc, nq, nI cy, ca, ho, st, xse, xbu, xsc, xqt, xam, xat, xsy, xsq, xib, xnc, xnh, rm) p := by
  unfold wpX_isQueued
  rcases hp with h0 | h0 | ⟨j, hj, rfl, hs⟩
  · exact xm_slot_f (Or.inl h0) (br_t rfl h)
  · exact xm_slot_f (Or.inr h0) (br_t rfl h)
  · exact xm_slot_t hn hj (br_f (by decide) ⟨vp_in_nI (by omega) (by omega), br_f (by rw [nI_clamp (by omega)]; exact hs) h⟩)
theorem xm_hix {post : Int32 → Prop} {p s : Nat} (h : post (nI (p * 4 + s))) : wpX_holdingIndex post (nI p) (nI s) := by
  unfold wpX_holdingIndex
  rw [dv_hx]
  exact h
theorem xm_totCash {post : Int32 → Prop} (hn : np ≤ 8) (h : post (dv_sum ca np)) : wpX_totalCash post (nI np, nI ns, nI cp, mr, nI rc, nq, nI cy, ca, ho, st, xse, xbu, xsc, xqt, xam, xat, xsy, xsq, xib, xnc, xnh, rm) :=
  loop_0 (fun n i s => wX_totalCash_4 post (nI np) (nI ns) (nI cp) mr (nI rc) nq (nI cy) ca ho st xse xbu xsc xqt xam xat xsy xsq xib xnc xnh rm n s (nI i)) (fun i s => s = dv_sum ca i) np 0 rfl
    (fun n s hs => br_t (nI_le (Nat.le_refl _) (by omega)) (by rw [hs]; exact h))
    (fun n i s hi hs ih => br_f (nI_ge hi (by omega)) ⟨vp_in_nI (by omega) (by omega), nm_r (by rw [nI_clamp (by omega), hs]; rfl) (nm_r (nI_1 i) (ih (dv_sum ca (i + 1)) rfl))⟩)
theorem ym_totCash {post : Int32 → Prop} (hn : np ≤ 8) (h : post (dv_sum ca np)) : wpY_totalCash post (nI np, nI ns, nI cp, mr, nI cy, nI rc, nq, ca, ho, yse, ybu, ysc, yqt, yam, st, yat, ysy, ysq, rm, ync, ynh, yib) :=
  loop_0 (fun n i s => wY_totalCash_4 post (nI np) (nI ns) (nI cp) mr (nI cy) (nI rc) nq ca ho yse ybu ysc yqt yam st yat ysy ysq rm ync ynh yib n s (nI i)) (fun i s => s = dv_sum ca i) np 0 rfl
    (fun n s hs => br_t (nI_le (Nat.le_refl _) (by omega)) (by rw [hs]; exact h))
    (fun n i s hi hs ih => br_f (nI_ge hi (by omega)) ⟨vp_in_nI (by omega) (by omega), nm_r (by rw [nI_clamp (by omega), hs]; rfl) (nm_r (nI_1 i) (ih (dv_sum ca (i + 1)) rfl))⟩)
end
theorem i_vc_cash {k : Nat} {u : SX} {v : SY} (I : i_Rel k u v) (hk : k + 5 ≤ 2564) (v1 : Int32) : wpX_cash (fun r => wpY_cash (fun r' => r' = r ∧ i_Rel (k + 5) u v) v v1) u v1 := by
  obtain ⟨np, ns, cp, cy, rc, mr, nq, ca, ho, st, rm, xse, xbu, xsc, xqt, xam, xat, xsy, xib, xnc, xnh, yse, ybu, ysc, yqt, yam, yat, ysy, yib, ync, ynh, xsq, ysq, rfl, rfl, h1, h2, h3, h4, h5, h6, h7⟩ := I
  have R : i_Rel (k + 5) (nI np, nI ns, nI cp, mr, nI rc, nq, nI cy, ca, ho, st, xse, xbu, xsc, xqt, xam, xat, xsy, xsq, xib, xnc, xnh, rm) (nI np, nI ns, nI cp, mr, nI cy, nI rc, nq, ca, ho, yse, ybu, ysc, yqt, yam, st, yat, ysy, ysq, rm, ync, ynh, yib) := dv_rel (dv_Sz_up h1) h2 h3 h4 h5 h6 h7
  have h1' := h1
  obtain ⟨n2, n8, s1, s4, c8, c64, cyk, r64, cy0⟩ := h1
  unfold wpX_cash wpY_cash
  rcases pk_ix v1 (n := np) (by omega) with h | h | ⟨j, hj, rfl⟩
  · exact xm_part_f (Or.inl h) (br_t rfl (br_t h ⟨rfl, R⟩))
  · exact xm_part_f (Or.inr h) (br_t rfl (br_c (fun _ => ⟨rfl, R⟩) (fun _ => br_f (dv_nlt h) ⟨rfl, R⟩)))
  · have hi : vp_in (nI j) 8 := vp_in_nI (by omega) (by omega)
    exact xm_part_t n8 hj (br_f (by decide) ⟨hi, br_f (nI_pos (by omega)) (br_t (nI_lt hj (by omega)) ⟨hi, rfl, R⟩)⟩)
